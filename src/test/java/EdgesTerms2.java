/** The edges of the second part of the terms: texts, tokens, clauses, formulas, faults. */
public final class EdgesTerms2 extends Edges {
    private static final String TERMS = "Terms II";

    private EdgesTerms2() {
    }

    public static void main(String[] args) {
        run(EdgesTerms2.class);
    }

    // texts and tokens

    @Says(at = TERMS, value = "TEXTS 0 .. 3:")
    static void terms2_texts_are_0_to_3() {
        OneLetterWrong x = new OneLetterWrong(2, 2);
        for (int number = 0; number <= 3; number++) {
            due("by ahead of it", x.by(number), false);
            due("text " + number, Tape.read(x, "road 0 to " + number + ";"), number);
            due("by", x.by(number), true);
        }
        due("a fifth", Tape.read(x, "road 0 to 4;"), NONE);
        due("by 4", x.by(4), false);
    }

    @Says(at = TERMS, value = "of up to 300 bytes.")
    static void terms2_a_text_may_have_300_bytes() {
        String last = "road 1 to 1;";
        OneLetterWrong x = ruled(2, 2, " ".repeat(300 - last.length()) + last);
        due("the clause at its very end", x.about(9), 1);
        good(2, 2, "weight " + "1+".repeat(145) + "1; ");
        fault(2, 2, "\n".repeat(299) + ";", 1, 299);
        fault(2, 2, "weight " + "1+".repeat(146) + "1", 1, 300);
        sum("1+".repeat(145) + " 1", 9);
    }

    @Says(at = TERMS, value = "of up to 300 bytes.")
    static void terms2_each_of_300_bytes_may_be_a_token() {
        for (String two : new String[] {";;", "((", "--", "a1", "1a", "<>", "!!"}) {
            fault(2, 2, two.repeat(150), 1, 0);
        }
        // at the very end there is no byte behind a sign that could belong to it
        fault(2, 2, "may 1" + " ".repeat(294) + "<", 1, 300);
        fault(2, 2, "may 1" + " ".repeat(294) + ">", 1, 300);
        OneLetterWrong x = new OneLetterWrong(2, 2);
        Tape.lay(x, "may 1<=1;");
        x.end(6);
        due("nor is there one that was cut off", x.text(), NONE);
        due("so the end can't stand there", new long[] {x.fault(0), x.fault(1)}, 1, 6);
    }

    @Says(at = TERMS, value = "TOKENS, blanks (32, 10) aside:")
    static void terms2_bytes_32_and_10_alone_are_blanks() {
        for (int one = 0; one < 256; one++) {
            boolean blank = one == 32 || one == 10;
            fault(2, 2, "road 0 to 0;" + (char) one, blank ? 0 : 1, 12);
        }
        good(2, 2, " \n may\n\n1 = 1 \n;\n");
        fault(2, 2, "ma y 1 = 1;", 1, 0);
        fault(2, 2, "weight 1 0;", 1, 9);
        fault(2, 2, "may 1 <\n= 1;", 1, 8);
    }

    @Says(at = TERMS, value = "letters a .. z, A .. Z one behind the other (one TOKEN),")
    static void terms2_letters_one_behind_the_other_are_one_token() {
        for (int one = 0; one < 256; one++) {
            boolean letter = one >= 97 && one <= 122 || one >= 65 && one <= 90;
            OneLetterWrong x = new OneLetterWrong(2, 2);
            Tape.read(x, "weight place" + (char) one + "+;");
            // a letter makes another name of it, at 7; what else it is, the fault comes behind the name
            due("byte " + one + " behind a name makes it another one", x.fault(1) == 7, letter);
            due("FAULT with byte " + one, x.fault(0), 1);
        }
        fault(2, 2, "book aB 1;", 2, 5);
        fault(2, 2, "book Ab 1;", 2, 5);
        fault(2, 2, "MAY 1 = 1;", 1, 0);
        fault(2, 2, "may1=1;mayn1=1;", 1, 7);
    }

    @Says(at = TERMS, value = "digits likewise")
    static void terms2_digits_one_behind_the_other_are_one_token() {
        for (int one = 0; one < 256; one++) {
            boolean stays = one >= 48 && one <= 57 || one == 32 || one == 10;
            OneLetterWrong x = new OneLetterWrong(2, 2);
            due("a number with byte " + one, Tape.read(x, "weight 1" + (char) one + ";"), stays ? 0 : NONE);
        }
        sum("12 - 5", 7);
        sum("0012 - 05", 7);
        good(2, 2, "book ab1;");
        good(2, 2, "road 1to2;");
    }

    @Says(at = TERMS, value = "(NUMBERS, 0 .. 9999),")
    static void terms2_numbers_are_0_to_9999() {
        sum("0 + 3", 3);
        sum("9999 - 9996", 3);
        fault(2, 2, "weight 10000;", 2, 7);
        sum("000000000009999 - 9996", 3);
        fault(2, 2, "weight 0000000010000;", 2, 7);
        fault(2, 2, "weight 4294967296;", 2, 7);
        fault(2, 2, "weight 18446744073709551617;", 2, 7);
        fault(2, 2, "weight " + "9".repeat(290) + ";", 2, 7);
        good(2, 2, "weight " + "0".repeat(290) + ";");
    }

    @Says(at = TERMS, value = "<= >= < > = # + - * / ( ) ; (the longest).")
    static void terms2_of_two_signs_the_longest_token_is_taken() {
        may("1<=1", true);
        may("1>=1", true);
        fault(2, 2, "may 1<==1;", 1, 7);
        fault(2, 2, "may 1>==1;", 1, 7);
        fault(2, 2, "may 1< =1;", 1, 7);
        fault(2, 2, "may 1> =1;", 1, 7);
        fault(2, 2, "may 1=<1;", 1, 6);
        fault(2, 2, "may 1=>1;", 1, 6);
        fault(2, 2, "may 1<>1;", 1, 6);
        fault(2, 2, "may 1<", 1, 6);
        fault(2, 2, "may 1<=", 1, 7);
    }

    @Says(at = TERMS, value = "<= >= < > = # + - * / ( ) ; (the longest).")
    static void terms2_no_other_sign_is_a_token() {
        String others = "!\"$%&',.:?@[\\]^_`{|}~";
        for (char one : others.toCharArray()) {
            fault(2, 2, "weight 1" + one + "1;", 1, 8);
        }
        good(2, 2, "may((1+2)*3/4-5)<6;");
        good(2, 2, "may 1>=1 and 1<=1 and 1>0 and 0<1 and 1=1 and 1#0;");
    }

    // clauses

    @Says(at = TERMS, value = "{CLAUSE}, 24 at most:")
    static void terms2_there_may_be_no_clause_and_24() {
        good(2, 2, "");
        good(2, 2, " \n ");
        OneLetterWrong x = ruled(2, 2, "road 0 to 0;".repeat(24));
        due("24 roads", x.about(9), 24);
        due("the last of them", x.road(0, 0, 23), true);
        fault(2, 2, "road 0 to 0;".repeat(24) + "book", 5, 288);
        OneLetterWrong y = ruled(2, 4, "book aaaa1;".repeat(23) + "book bbbb9;");
        due("the last of 24 book clauses counts, and 23 are the same", y.filled(0), 2);
        due("it is bbbb", y.book(1), 15);
    }

    @Says(at = TERMS, value = "may EITHER ; or weight SUM ; (each once)")
    static void terms2_may_and_weight_stand_once_each() {
        good(2, 2, "may 1=1; weight 1;");
        good(2, 2, "weight 1; may 1=1;");
        fault(2, 2, "may 1=1; may 1=1;", 4, 9);
        fault(2, 2, "weight 1; weight 1;", 4, 10);
        fault(2, 2, "may 1=1; road 0 to 0; weight 1; may 1=1;", 4, 32);
    }

    @Says(at = TERMS, value = "may EITHER ; or weight SUM ; (each once)")
    static void terms2_may_and_weight_want_a_formula_and_a_semicolon() {
        fault(2, 2, "may ;", 1, 4);
        fault(2, 2, "may 1;", 1, 5);
        fault(2, 2, "may 1=1", 1, 7);
        fault(2, 2, "may 1=1 weight 1;", 1, 8);
        fault(2, 2, "weight ;", 1, 7);
        fault(2, 2, "weight 1=1;", 1, 8);
        fault(2, 2, "weight 1", 1, 8);
        fault(2, 2, "weight 1;;", 1, 9);
    }

    @Says(at = TERMS, value = "or book WORD NUMBER ;")
    static void terms2_book_wants_a_word_a_number_and_a_semicolon() {
        good(2, 2, "book ab 1;");
        fault(2, 2, "book", 1, 4);
        fault(2, 2, "book ;", 1, 5);
        fault(2, 2, "book 1 ab;", 1, 5);
        fault(2, 2, "book ab", 1, 7);
        fault(2, 2, "book ab;", 1, 7);
        fault(2, 2, "book ab -1;", 1, 8);
        fault(2, 2, "book ab (1);", 1, 8);
        fault(2, 2, "book ab 1", 1, 9);
        fault(2, 2, "book ab 1 2;", 1, 10);
        fault(2, 2, "book ab 1+1;", 1, 9);
        good(2, 2, "book ab 1;book ab 1;");
    }

    @Says(at = TERMS, value = "or road NUMBER to NUMBER ;.")
    static void terms2_road_wants_two_numbers_and_to_between() {
        good(2, 2, "road 0 to 8;");
        fault(2, 2, "road", 1, 4);
        fault(2, 2, "road to 1;", 1, 5);
        fault(2, 2, "road 1", 1, 6);
        fault(2, 2, "road 1 1;", 1, 7);
        fault(2, 2, "road 1 TO 1;", 1, 7);
        fault(2, 2, "road 1 to", 1, 9);
        fault(2, 2, "road 1 to;", 1, 9);
        fault(2, 2, "road 1 to place;", 1, 10);
        fault(2, 2, "road 1 to 2", 1, 11);
        fault(2, 2, "road 1 to 2 to 3;", 1, 12);
    }

    @Says(at = TERMS, value = "{CLAUSE}, 24 at most:")
    static void terms2_nothing_else_begins_a_clause() {
        String[] others = {"to", "or", "and", "not", "place", "from", "into", "hand", "last", "far", "mays", "ma", "Book",
            "aa", "1", "(", ")", "-", "+", "*", "/", "<", "<=", "#", "="};
        for (String other : others) {
            fault(2, 2, other + " 1=1;", 1, 0);
        }
    }

    @Says(at = TERMS, value = "(WORD: a TOKEN of letters, whatever else it may be.)")
    static void terms2_a_word_may_be_any_token_of_letters() {
        String[] names = {"or", "to", "may", "and", "not", "far", "book", "road", "from", "into", "hand", "last", "place",
            "weight"};
        for (String name : names) {
            // it can stand there, but isn't of the letters a and b
            fault(2, name.length(), "book " + name + " 1;", 2, 5);
            fault(2, 8, "book " + name + " 1;", 2, 5);
        }
        good(5, 3, "book bad 1;");
    }

    // formulas

    @Says(at = TERMS, value = "EITHER: BOTH {or BOTH}.")
    static void terms2_either_is_one_or_more_with_or_between() {
        may("1=1", true);
        may("1=2 or 1=1", true);
        may("1=1 or 1=2", true);
        may("1=2 or 1=3", false);
        may("1=2 or 1=2 or 1=2 or 1=2 or 1=2 or 1=1", true);
        may("1=1 or 1=2 or 1=2 or 1=2 or 1=2 or 1=2", true);
        may("1=2 or 1=2 or 1=1 and 1=1 or 1=2 or 1=2", true);
        may("1=2 or 1=2 or 1=2", false);
        fault(2, 2, "may or 1=1;", 1, 4);
        fault(2, 2, "may 1=1 or;", 1, 10);
        fault(2, 2, "may 1=1 or or 1=1;", 1, 11);
        fault(2, 2, "may 1=1 1=1;", 1, 8);
    }

    @Says(at = TERMS, value = "BOTH: ASK {and ASK}.")
    static void terms2_both_is_one_or_more_with_and_between_and_binds_ahead_of_or() {
        may("1=1 and 1=1", true);
        may("1=1 and 1=2", false);
        may("1=2 and 1=1", false);
        may("1=1 and 1=1 and 1=1 and 1=1 and 1=2", false);
        may("1=2 and 1=1 and 1=1 and 1=1 and 1=1", false);
        may("1=1 and 1=1 and 1=1", true);
        may("1=1 or 1=1 and 1=2", true);
        may("1=2 and 1=1 or 1=1", true);
        may("1=2 and 1=2 or 1=1 and 1=1", true);
        may("1=1 and 1=2 or 1=2 and 1=1", false);
        fault(2, 2, "may and 1=1;", 1, 4);
        fault(2, 2, "may 1=1 and;", 1, 11);
        fault(2, 2, "may 1=1 and or 1=1;", 1, 12);
    }

    @Says(at = TERMS, value = "ASK: not ASK,")
    static void terms2_not_takes_one_ask_alone() {
        may("not 1=2", true);
        may("not 1=1", false);
        may("not not 1=1", true);
        may("not 1=2 and 1=2", false);
        may("not 1=1 or 1=1", true);
        fault(2, 2, "may not;", 1, 7);
        fault(2, 2, "may not 1;", 1, 9);
        fault(2, 2, "may 1 = not 1;", 1, 8);
        fault(2, 2, "may not (1=1);", 1, 10);
    }

    @Says(at = TERMS, value = "or SUM one of < <= > >= = # (unlike) SUM.")
    static void terms2_each_comparison_at_its_edge() {
        boolean[][] so = {{true, true, false, false, false, true}, {false, true, false, true, true, false},
            {false, false, true, true, false, true}};
        String[] signs = {"<", "<=", ">", ">=", "=", "#"};
        for (int left = 1; left <= 3; left++) {
            for (int k = 0; k < 6; k++) {
                may(left + " " + signs[k] + " 2", so[left - 1][k]);
                may("-" + left + " " + signs[k] + " -2", so[3 - left][k]);
                may("not " + left + " " + signs[k] + " 2", !so[left - 1][k]);
                may("0 = 0 and " + left + " " + signs[k] + " 2", so[left - 1][k]);
                may("0 = 1 or " + left + " " + signs[k] + " 2", so[left - 1][k]);
            }
        }
        fault(2, 2, "may 1<2<3;", 1, 7);
        fault(2, 2, "may 1=;", 1, 6);
        fault(2, 2, "may =1;", 1, 4);
    }

    @Says(at = TERMS, value = "SUM: PRODUCT {+ or - PRODUCT}.")
    static void terms2_a_sum_is_one_product_or_more() {
        sum("4", 4);
        sum("4 + 3", 7);
        sum("4 - 3", 1);
        sum("1 + 1 + 1 + 1 + 1 + 1 - 1 + 1", 6);
        fault(2, 2, "weight +1;", 1, 7);
        fault(2, 2, "weight 1+;", 1, 9);
        fault(2, 2, "weight 1++1;", 1, 9);
    }

    @Says(at = TERMS, value = "PRODUCT: ONE {* or / ONE}.")
    static void terms2_a_product_is_one_or_more_and_binds_ahead_of_a_sum() {
        sum("2 * 3", 6);
        sum("8 / 2", 4);
        sum("2 + 2 * 3", 8);
        sum("9 - 8 / 4", 7);
        sum("2 * 3 + 2", 8);
        fault(2, 2, "weight *1;", 1, 7);
        fault(2, 2, "weight 1*;", 1, 9);
        fault(2, 2, "weight 1*/1;", 1, 9);
        fault(2, 2, "weight 1*+1;", 1, 9);
    }

    @Says(at = TERMS, value = "ONE: NUMBER, NAME, ( SUM ), - ONE.")
    static void terms2_one_is_a_number_a_name_a_sum_in_brackets_or_less_than_nothing() {
        sum("7", 7);
        sum("from + 5", 6);
        sum("(1 + 2) * 3", 9);
        sum("((7))", 7);
        sum("-2 * -3", 6);
        sum("9 - -(1 - 1) + - -(0)", 9);
        sum("-2 + 9", 7);
        fault(2, 2, "weight ();", 1, 8);
        fault(2, 2, "weight (1;", 1, 9);
        fault(2, 2, "weight 1);", 1, 8);
        fault(2, 2, "weight -;", 1, 8);
        fault(2, 2, "weight -+1;", 1, 8);
        fault(2, 2, "weight (1=1);", 1, 9);
    }

    // names

    @Says(at = TERMS, value = "NAMES: place,")
    static void terms2_place_is_0_to_L_less_1() {
        OneLetterWrong x = ruled(2, 8, "weight place + 1;");
        for (int place = 0; place < 8; place++) {
            due("place " + place, x.ways(0, 1 << 7 - place, 1), place + 1);
        }
    }

    @Says(at = TERMS, value = "from, into (letters by number),")
    static void terms2_from_and_into_are_letters_by_number_from_0() {
        OneLetterWrong x = ruled(5, 2, "weight from * 2 + 1;");
        OneLetterWrong y = ruled(5, 2, "weight into * 2 + 1;");
        for (int letter = 0; letter < 5; letter++) {
            int other = (letter + 1) % 5;
            due("from " + letter, x.ways(letter, other, 1), letter * 2 + 1);
            due("into " + letter, y.ways(5 * other, 5 * letter, 1), letter * 2 + 1);
        }
    }

    @Says(at = TERMS, value = "hand,")
    static void terms2_hand_is_0_to_7() {
        // each of the 128 rows of eight hands that leads back weighs 1 * 2 * .. * 8
        due("1 times 2 to 8", ruled(2, 2, "weight hand + 1;").ways(0, 0, 8), 128L * 40320);
        due("hand 0 is the first", hears(ruled(2, 2, "may hand = 0 and place = 0;"), 0, 1), 2);
        due("hand 7 is the eighth", ruled(2, 2, "may hand < 7;").heard(0, 8, NONE), 0);
        due("hand 8 there is none", ruled(2, 2, "may hand < 8;").heard(0, 8, NONE), 2);
    }

    @Says(at = TERMS, value = "last (the PLACE that the HAND ahead changed; -1: none),")
    static void terms2_last_is_the_place_of_the_hand_ahead_and_none_is_less_1() {
        OneLetterWrong x = ruled(2, 3, "may last = -1;");
        due("hand 0 has none ahead", hears(x, 0, 1), 1, 2, 4);
        due("hand 1 has one", hears(x, 0, 2));
        OneLetterWrong y = ruled(2, 3, "may last = -1 or last = 0 and place = 2;");
        due("behind place 0 alone", hears(y, 0, 2), word(2, "bab"));
        OneLetterWrong z = ruled(2, 8, "may last = -1 or last = 7 and place = 6;");
        due("behind place 7 alone", hears(z, 0, 2), 3);
        OneLetterWrong first = ruled(2, 3, "may last = -1; weight 5; road 0 to 8;");
        due("one hand has none ahead: bars, ways, row", new long[] {first.bars(0, 2, 1), first.ways(0, 2, 1),
            first.row(0, 2, 1, 0)}, 0, 5, 11);
        due("two have: bars, ways, row", new long[] {first.bars(0, 3, 2), first.ways(0, 3, 2), first.row(0, 3, 2, 0)},
                2, 0, NONE);
        due("the road goes by one alone", new long[] {bit(first.road(0, 2, 0)), bit(first.road(0, 3, 0))}, 1, 0);
        OneLetterWrong never = ruled(2, 3, "may last = 0; road 1 to 1;");
        due("none isn't place 0: bars, ways, heard, road", new long[] {never.bars(0, 2, 1), never.ways(0, 2, 1),
            never.heard(0, 1, NONE), bit(never.road(0, 2, 0))}, 2, 0, 0, 0);
        OneLetterWrong once = ruled(2, 3, "may hand < 2 or place = last;");
        due("the hand ahead, not one further ahead", once.ways(0, word(2, "baa"), 3), 3);
    }

    @Says(at = TERMS, value = "far (PLACES from last, without sign;")
    static void terms2_far_has_no_sign() {
        OneLetterWrong x = ruled(2, 8, "may hand = 0 or far = 7;");
        due("from place 0 to place 7 and from 7 to 0", x.ways(0, 129, 2), 2);
        due("no other", x.heard(0, 2, NONE), 1);
        OneLetterWrong y = ruled(2, 3, "may hand = 0 or far = 0;");
        due("0 from itself", hears(y, 0, 2), 0);
        due("each place", y.ways(0, 0, 2), 3);
    }

    @Says(at = TERMS, value = "0 without).")
    static void terms2_far_is_0_without_last() {
        OneLetterWrong x = ruled(2, 8, "may far = 0;");
        due("any place at first", x.heard(0, 1, NONE), 8);
        due("then the same", hears(x, 0, 2), 0);
        due("its weight", ruled(2, 8, "weight far + 4;").ways(0, 1, 1), 4);
    }

    // working out

    @Says(at = TERMS, value = "From the left;")
    static void terms2_from_the_left() {
        sum("9 - 4 - 3", 2);
        sum("9 - 4 + 3", 8);
        sum("8 / 2 / 2", 2);
        sum("8 / 4 * 2", 4);
        sum("9 / 2 * 2", 8);
    }

    @Says(at = TERMS, value = "/ cuts towards 0,")
    static void terms2_division_cuts_towards_0() {
        sum("7 / 2 + 1", 4);
        sum("-7 / 2 + 9", 6);
        sum("7 / -2 + 9", 6);
        sum("-7 / -2 + 1", 4);
        sum("-1 / 2 + 5", 5);
        sum("1 / -2 + 5", 5);
        sum("1 / 2 + 5", 5);
    }

    @Says(at = TERMS, value = "by 0 it is 0;")
    static void terms2_division_by_0_is_0() {
        sum("5 / 0 + 4", 4);
        sum("0 / 0 + 4", 4);
        sum("-5 / 0 + 4", 4);
        sum("9 / (1 - 1) + 4", 4);
        sum("5 / -0 + 4", 4);
        sum("8 / 0 / 2 + 4", 4);
    }

    @Says(at = TERMS, value = "what is above 1000000")
    static void terms2_above_1000000_is_1000000() {
        sum("9999 * 100 + 99 - 9999 * 100 - 97", 2);
        sum("9999 * 100 + 100 - 9999 * 100 - 97", 3);
        sum("9999 * 100 + 101 - 9999 * 100 - 97", 3);
        sum("9999 * 100 - -101 - 9999 * 100 - 97", 3);
        sum("1000 * 1000 / 1000 - 998", 2);
        sum("1001 * 1000 / 1000 - 998", 2);
        sum("-1001 * -1000 / 1000 - 998", 2);
    }

    @Says(at = TERMS, value = "(below the same less) is that,")
    static void terms2_below_1000000_less_is_that() {
        sum("0 - 9999 * 100 - 99 + 9999 * 100 + 102", 3);
        sum("0 - 9999 * 100 - 100 + 9999 * 100 + 102", 2);
        sum("0 - 9999 * 100 - 101 + 9999 * 100 + 102", 2);
        sum("-9999 * 100 + -101 + 9999 * 100 + 102", 2);
        sum("-1000 * 1000 / 1000 + 1002", 2);
        sum("-1001 * 1000 / 1000 + 1002", 2);
        sum("1001 * -1000 / 1000 + 1002", 2);
    }

    @Says(at = TERMS, value = "at each step.")
    static void terms2_the_bound_holds_at_each_step() {
        sum("9999 * 9999 * 9999 * 9999 * 9999 / 9999 - 98", 2);
        sum("9999 * 9999 - 9999 * 9999 + 4", 4);
        sum("9999 * 9999 + 9999 * 9999 - 9999 * 9999 + 4", 4);
        sum("(9999 * 9999 + 1) / 1000 - 998", 2);
        sum("-(9999 * 9999) + 9999 * 100 + 102", 2);
        sum("-(0 - 9999 * 9999) - 9999 * 100 - 98", 2);
        may("9999 * 9999 = 1000 * 1000", true);
        may("9999 * 9999 > 1000 * 1000", false);
    }

    @Says(at = TERMS, value = "or and and look at both sides always.")
    static void terms2_or_and_and_look_at_both_sides() {
        may("1=1 or 1/0 = 1", true);
        may("1=2 and 1/0 = 0 or 2=2", true);
        fault(2, 2, "may 1=1 or 10000=1;", 2, 11);
        fault(2, 2, "may 1=2 and aa=1;", 1, 12);
        // only place 0, then only place 1: neither side alone would do
        due("or", ruled(2, 2, "may place = 0 or place = 1;").heard(0, 1, NONE), 2);
        due("and", ruled(2, 2, "may place = 0 and place = 1;").heard(0, 1, NONE), 0);
    }

    // faults

    @Says(at = TERMS, value = "FAULTS, the first as TOKENS are come to,")
    static void terms2_the_first_fault_counts_even_if_a_later_one_is_less() {
        fault(2, 2, "weight 10000; ;", 2, 7);
        fault(2, 2, "weight (((((((((10000", 3, 15);
        fault(2, 2, "may 1=1; may ;", 4, 9);
        fault(2, 2, "book ac 10;", 2, 5);
        fault(2, 2, "road 9 to ;", 2, 5);
        fault(2, 2, "road 3 to 2", 2, 10);
        fault(2, 2, "! weight 10000;", 1, 0);
    }

    @Says(at = TERMS, value = "at the TOKEN's first byte")
    static void terms2_the_place_is_the_first_byte_of_the_token() {
        fault(2, 2, "  \nplace", 1, 3);
        fault(2, 2, "weight  123456789;", 2, 8);
        fault(2, 2, "book  abab 1;", 2, 6);
        fault(2, 2, "may 1  <=  <= 1;", 1, 11);
        fault(2, 2, "may 1=1 ;   may 1=1;", 4, 12);
    }

    @Says(at = TERMS, value = "(of the end at the length),")
    static void terms2_the_place_of_the_end_is_the_length() {
        fault(2, 2, "may", 1, 3);
        fault(2, 2, "may ", 1, 4);
        fault(2, 2, "may 1=1 \n\n ", 1, 11);
        fault(2, 2, "weight (1" + " ".repeat(291), 1, 300);
        fault(2, 2, "book ab", 1, 7);
    }

    @Says(at = TERMS, value = "of one the least:")
    static void terms2_of_one_token_the_least_fault_counts() {
        String many = "road 0 to 0;".repeat(23);
        fault(2, 2, "may 1=1;" + many + "may", 4, 284);
        fault(2, 2, "weight 1;" + many + "weight", 4, 285);
        fault(2, 2, many + "road 0 to 0;place", 1, 288);
        fault(2, 2, "weight 1 10000;", 1, 9);
        fault(2, 2, "10000", 1, 0);
        fault(2, 2, "book 10000 1;", 1, 5);
        fault(2, 2, "weight ((((((((1(", 1, 16);
        fault(2, 2, "weight ((((((((not 1=1", 1, 15);
        fault(2, 2, "may 1=1; weight may", 1, 16);
    }

    @Says(at = TERMS, value = "1 it can't stand there, or is none.")
    static void terms2_fault_1() {
        fault(2, 2, "may place place;", 1, 10);
        fault(2, 2, "may to = 1;", 1, 4);
        fault(2, 2, "may 1 = aa;", 1, 8);
        fault(2, 2, "weight 1" + (char) 0 + ";", 1, 8);
        fault(2, 2, "weight 1" + (char) 255 + ";", 1, 8);
        fault(2, 2, "weight 1\t;", 1, 8);
        fault(2, 2, "weight 1\r;", 1, 8);
        // where a number, a word, a sign or the end of a clause is wanted
        fault(2, 2, "weight !;", 1, 7);
        fault(2, 2, "may 1 ! 1;", 1, 6);
        fault(2, 2, "may 1 = !;", 1, 8);
        fault(2, 2, "book ! 1;", 1, 5);
        fault(2, 2, "book ab !;", 1, 8);
        fault(2, 2, "road ! to 1;", 1, 5);
        fault(2, 2, "road 1 ! 1;", 1, 7);
        fault(2, 2, "road 1 to !;", 1, 10);
        fault(2, 2, "road 1 to 1!", 1, 11);
    }

    @Says(at = TERMS, value = "2 a NUMBER that isn't one of those told (above 9999;")
    static void terms2_fault_2_of_a_number_above_9999() {
        good(2, 2, "weight 9999;");
        fault(2, 2, "weight 10000;", 2, 7);
        good(2, 2, "may 9999 = 9999;");
        fault(2, 2, "may 9999 = 10000;", 2, 11);
        fault(2, 2, "may place < -(10000);", 2, 14);
    }

    @Says(at = TERMS, value = "a PRIOR 1 .. 9;")
    static void terms2_fault_2_of_a_prior() {
        fault(2, 2, "book ab 0;", 2, 8);
        good(2, 2, "book ab 1;");
        good(2, 2, "book ab 9;");
        good(2, 2, "book ab 0009;");
        fault(2, 2, "book ab 10;", 2, 8);
        fault(2, 2, "book ab 9999;", 2, 8);
        fault(2, 2, "book ab 10000;", 2, 8);
    }

    @Says(at = TERMS, value = "of road 0 .. 8,")
    static void terms2_fault_2_of_a_road() {
        good(2, 2, "road 0 to 0;");
        good(2, 2, "road 8 to 8;");
        fault(2, 2, "road 9 to 9;", 2, 5);
        fault(2, 2, "road 8 to 9;", 2, 10);
        fault(2, 2, "road 10000 to 8;", 2, 5);
        fault(2, 2, "road 0 to 10000;", 2, 10);
    }

    @Says(at = TERMS, value = "the second not below the first),")
    static void terms2_fault_2_of_a_road_that_goes_down() {
        good(2, 2, "road 5 to 5;");
        good(2, 2, "road 5 to 6;");
        fault(2, 2, "road 5 to 4;", 2, 10);
        fault(2, 2, "road 1 to 0;", 2, 10);
        fault(2, 2, "road 8 to 7;", 2, 10);
    }

    @Says(at = TERMS, value = "letters that aren't a WORD of this size.")
    static void terms2_fault_2_of_letters() {
        good(3, 3, "book cba 1;");
        fault(3, 3, "book cb 1;", 2, 5);
        fault(3, 3, "book cbaa 1;", 2, 5);
        fault(3, 3, "book cbd 1;", 2, 5);
        fault(3, 3, "book dba 1;", 2, 5);
        fault(3, 3, "book cbA 1;", 2, 5);
        fault(3, 3, "book cbz 1;", 2, 5);
        fault(3, 3, "book CBA 1;", 2, 5);
        fault(3, 3, "book " + "a".repeat(290) + " 1;", 2, 5);
    }

    @Says(at = TERMS, value = "3 the 9th of ( not and - (of one ONE) that are open around one another (at it).")
    static void terms2_fault_3_at_the_9th_of_each_kind() {
        good(2, 2, "weight ((((((((1))))))));");
        fault(2, 2, "weight (((((((((1)))))))));", 3, 15);
        good(2, 2, "weight --------1;");
        fault(2, 2, "weight ---------1;", 3, 15);
        good(2, 2, "may not not not not not not not not 1=1;");
        fault(2, 2, "may not not not not not not not not not 1=1;", 3, 36);
        fault(2, 2, "may 1=1 or not not not not not not not not not 1=1;", 3, 43);
    }

    @Says(at = TERMS, value = "3 the 9th of ( not and - (of one ONE) that are open around one another (at it).")
    static void terms2_fault_3_counts_all_three_kinds_together() {
        good(2, 2, "may not not (-(-(-1))) = 1;");
        fault(2, 2, "may not not (-(-(-(1)))) = 1;", 3, 18);
        fault(2, 2, "may not not (-(-(--1))) = 1;", 3, 18);
        good(2, 2, "may not not 1 = ------1;");
        fault(2, 2, "may not not 1 = -------1;", 3, 22);
        good(2, 2, "may not not not not 1 = (-(-1));");
        fault(2, 2, "may not not not not 1 = (-(-(1)));", 3, 28);
        fault(2, 2, "may not not not not not not not not (1)=1;", 3, 36);
        fault(2, 2, "may not not not not not not not not 1=-1;", 3, 38);
    }

    @Says(at = TERMS, value = "3 the 9th of ( not and - (of one ONE) that are open around one another (at it).")
    static void terms2_fault_3_counts_open_ones_alone() {
        good(2, 2, "weight ((((((((1)))))))) + ((((((((1))))))));");
        good(2, 2, "weight --------1 * --------1 - --------1;");
        good(2, 2, "weight ((((((((1 - 1 - 1))))))));");
        good(2, 2, "weight -------(1 - 1) - --------1;");
        good(2, 2, "may not not not not not not not not 1=1 and not 1=1 or not 1=1;");
        good(2, 2, "may not not not not ((((1)))) = ((((1))));");
        good(2, 2, "may not not not not not not not not 1=1; weight ((((((((1))))))));");
        fault(2, 2, "weight -------(1-(1));", 3, 17);
    }

    @Says(at = TERMS, value = "4 may, weight for the second time (at it).")
    static void terms2_fault_4() {
        fault(2, 2, "may 1=1;may", 4, 8);
        fault(2, 2, "weight 1;may 1=1;weight", 4, 17);
        fault(2, 2, "may 1=1;weight 1;may 1=1;", 4, 17);
        good(2, 2, "road 0 to 0;road 0 to 0;book ab 1;book ab 1;");
        OneLetterWrong x = new OneLetterWrong(2, 2);
        due("once in this text", Tape.read(x, "may 1=1; weight 1;"), 0);
        due("and once in another", Tape.read(x, "may 1=1; weight 1;"), 1);
    }

    @Says(at = TERMS, value = "5 the 25th CLAUSE (at its first TOKEN).")
    static void terms2_fault_5() {
        String many = "road 0 to 0;".repeat(24);
        good(2, 2, many);
        good(2, 2, many + "\n \n");
        fault(2, 2, many + "road", 5, 288);
        fault(2, 2, many + "  may 1=1;", 5, 290);
        fault(2, 2, many + "weight 1;", 5, 288);
        fault(2, 2, "may 1=1;" + "road 0 to 0;".repeat(23) + "\nweight", 5, 285);
        fault(2, 8, "book aaaaaaaa1;".repeat(5) + "road0to0;".repeat(20), 5, 246);
    }

    // what a text does

    @Says(at = TERMS, value = "THE TEXT (told; at first none) rules: THE VOW, WEIGHTS;")
    static void terms2_the_text_rules_when_told_and_at_first_none() {
        OneLetterWrong x = new OneLetterWrong(2, 3);
        Tape.read(x, "may place = 1; weight 7; road 1 to 1;");
        Tape.read(x, "may place = 2;");
        due("at first none", x.about(4), NONE);
        due("so all may be", x.heard(0, 1, NONE), 3);
        due("weight 1", x.ways(0, 2, 1), 1);
        x.by(0);
        due("told", hears(x, 0, 1), 2);
        due("its weight", x.ways(0, 2, 1), 7);
        x.by(1);
        due("another one", hears(x, 0, 1), 1);
        due("which has no weights", x.ways(0, 1, 1), 1);
        x.by(NONE);
        due("none again", x.heard(0, 1, NONE), 3);
    }

    @Says(at = TERMS, value = "its ROADS by their order (0, 1, ..): from so many HANDS to so many.")
    static void terms2_roads_count_from_0_and_both_numbers_belong_to_them() {
        OneLetterWrong x = ruled(2, 3, "may place = hand; road 1 to 2; book aaa 1; road 0 to 0; road 3 to 8;");
        due("road 0 not by none", x.road(0, word(2, "aaa"), 0), false);
        due("road 0 by 1", x.road(0, word(2, "baa"), 0), true);
        due("road 0 by 2", x.road(0, word(2, "bba"), 0), true);
        due("road 0 not by 3", x.road(0, word(2, "bbb"), 0), false);
        due("road 1 by none", x.road(0, word(2, "aaa"), 1), true);
        due("road 1 not by 1", x.road(0, word(2, "baa"), 1), false);
        due("road 2 by 3", x.road(0, word(2, "bbb"), 2), true);
        due("road 2 not by 2", x.road(0, word(2, "bba"), 2), false);
    }

    @Says(at = TERMS, value = "FILLED by a TEXT: its book clauses put WORDS in, in their order;")
    static void terms2_filled_puts_in_by_the_order_of_the_clauses() {
        OneLetterWrong x = new OneLetterWrong(2, 2);
        Tape.read(x, "book bb 3; road 0 to 0; book aa 1; may 1=1; book ba 9;");
        x.put(1, 5);
        due("three", x.filled(0), 3);
        due("behind what is there", bookOf(x), 1, 3, 0, 2);
        due("with prior 3", x.about(11), 3);
        due("with prior 1", x.about(12), 1);
        due("with prior 9", x.about(13), 9);
    }

    @Says(at = TERMS, value = "one that can't be is left out: how many were put in.")
    static void terms2_filled_leaves_out_what_is_there_or_has_no_room() {
        OneLetterWrong x = new OneLetterWrong(2, 2);
        Tape.read(x, "book bb 3; book bb 4; book ab 2;");
        due("bb once, and ab", x.filled(0), 2);
        due("the first of two", x.about(10), 3);
        due("all are there", x.filled(0), 0);
        x.take(3);
        due("one is missing", x.filled(0), 1);
        OneLetterWrong y = new OneLetterWrong(2, 6);
        putFirst(y, 38);
        Tape.read(y, "book aaaaaa 2; book bbbbbb 1; book bbbbba 1; book bbbbab 1;");
        due("room for two", y.filled(0), 2);
        due("the first of them", y.book(38), 63);
        due("the second", y.book(39), 62);
        due("full", y.filled(0), 0);
    }
}
