import java.math.BigInteger;
import java.util.ArrayList;
import java.util.HashMap;
import java.util.HashSet;
import java.util.List;
import java.util.Map;
import java.util.Set;
import java.util.TreeSet;

/**
 * The document once more, in the plainest way and with the whole Java library: words are strings,
 * sets are searched through, formulas are trees. The class is held against it.
 */
final class Plain {
    static final class Known {
        final String word;
        final int prior;

        Known(String word, int prior) {
            this.word = word;
            this.prior = prior;
        }
    }

    static final class State {
        List<Known> book = new ArrayList<>();
        List<PlainText> texts = new ArrayList<>();
        int ruling = -1;
        int logHands = 0;
        List<int[]> told = new ArrayList<>();

        State copy() {
            State s = new State();
            s.book = new ArrayList<>(book);
            s.texts = new ArrayList<>(texts);
            s.ruling = ruling;
            s.logHands = logHands;
            s.told = new ArrayList<>(told);
            return s;
        }
    }

    final int a;
    final int l;
    final int n;
    State now = new State();
    State image = new State();
    StringBuilder tape = new StringBuilder();
    int latestFault = -1;
    int latestFaultAt = -1;

    Plain(int a, int l) {
        this.a = a < 2 ? 2 : a > 5 ? 5 : a;
        int length = l < 2 ? 2 : l > 8 ? 8 : l;
        while (Math.pow(this.a, length) > 256) {
            length--;
        }
        this.l = length;
        this.n = (int) Math.round(Math.pow(this.a, length));
    }

    String spelled(int number) {
        StringBuilder s = new StringBuilder(Integer.toString(number, a));
        while (s.length() < l) {
            s.insert(0, '0');
        }
        for (int i = 0; i < l; i++) {
            s.setCharAt(i, (char) ('a' + s.charAt(i) - '0'));
        }
        return s.toString();
    }

    int number(String word) {
        int number = 0;
        for (char c : word.toCharArray()) {
            number = number * a + c - 'a';
        }
        return number;
    }

    boolean word(int w) {
        return w >= 0 && w < n;
    }

    boolean in(int x, int least, int most) {
        return x >= least && x <= most;
    }

    PlainText rules() {
        return now.ruling < 0 ? null : now.texts.get(now.ruling);
    }

    // what the hands may do

    /** The weight of a change, 0 if the vow bars it. */
    int weight(int hand, String word, int place, char into, int last) {
        PlainText text = rules();
        if (word.charAt(place) == into) {
            return 0;
        }
        if (text == null) {
            return 1;
        }
        Map<String, Integer> names = new HashMap<>();
        names.put("place", place);
        names.put("from", word.charAt(place) - 'a');
        names.put("into", into - 'a');
        names.put("hand", hand);
        names.put("last", last);
        names.put("far", last < 0 ? 0 : Math.abs(place - last));
        if (text.may != null && text.may.at(names) == 0) {
            return 0;
        }
        return text.weight == null ? 1 : (int) Math.max(1, Math.min(9, text.weight.at(names)));
    }

    static String changed(String word, int place, char into) {
        return word.substring(0, place) + into + word.substring(place + 1);
    }

    private final Map<String, BigInteger> memo = new HashMap<>();

    BigInteger rest(int hand, String word, int last, String into, int hands) {
        if (hand == hands) {
            return word.equals(into) ? BigInteger.ONE : BigInteger.ZERO;
        }
        String key = hand + " " + word + " " + last;
        BigInteger known = memo.get(key);
        if (known != null) {
            return known;
        }
        BigInteger sum = BigInteger.ZERO;
        for (int place = 0; place < l; place++) {
            for (char c = 'a'; c < 'a' + a; c++) {
                int weight = weight(hand, word, place, c, last);
                if (weight > 0) {
                    BigInteger further = rest(hand + 1, changed(word, place, c), place, into, hands);
                    sum = sum.add(further.multiply(BigInteger.valueOf(weight)));
                }
            }
        }
        memo.put(key, sum);
        return sum;
    }

    BigInteger allWays(String from, String into, int hands) {
        memo.clear();
        return rest(0, from, -1, into, hands);
    }

    boolean comes(String from, String into, int hands) {
        return allWays(from, into, hands).signum() > 0;
    }

    /** States are "word last". */
    Set<String> step(int hand, Set<String> states) {
        Set<String> next = new HashSet<>();
        for (String state : states) {
            String[] parts = state.split(" ");
            for (int place = 0; place < l; place++) {
                for (char c = 'a'; c < 'a' + a; c++) {
                    if (weight(hand, parts[0], place, c, Integer.parseInt(parts[1])) > 0) {
                        next.add(changed(parts[0], place, c) + " " + place);
                    }
                }
            }
        }
        return next;
    }

    TreeSet<Integer> hearing(String from, int hands) {
        Set<String> states = new HashSet<>();
        states.add(from + " -1");
        for (int hand = 0; hand < hands; hand++) {
            states = step(hand, states);
        }
        TreeSet<Integer> all = new TreeSet<>();
        for (String state : states) {
            all.add(number(state.split(" ")[0]));
        }
        return all;
    }

    // the face

    int put(int w, int prior) {
        if (!word(w) || !in(prior, 1, 9) || now.book.size() == 40) {
            return -1;
        }
        for (Known k : now.book) {
            if (k.word.equals(spelled(w))) {
                return -1;
            }
        }
        now.book.add(new Known(spelled(w), prior));
        return now.book.size();
    }

    int take(int w) {
        if (!word(w)) {
            return -1;
        }
        String s = spelled(w);
        return now.book.removeIf(k -> k.word.equals(s)) ? now.book.size() : -1;
    }

    int feed(int... fives) {
        if (tape.length() + 20 > 300) {
            return -1;
        }
        for (int four : fives) {
            for (byte b : new byte[] {(byte) (four >> 24), (byte) (four >> 16), (byte) (four >> 8), (byte) four}) {
                tape.append((char) (b & 255));
            }
        }
        return tape.length();
    }

    int end(int k) {
        if (k < 0 || k > tape.length()) {
            return -1;
        }
        tape.setLength(k);
        return k;
    }

    int text() {
        if (now.texts.size() == 4) {
            return -1;
        }
        PlainText text = new PlainText(tape.toString(), a, l);
        tape.setLength(0);
        latestFault = text.fault;
        latestFaultAt = text.fault == 0 ? -1 : text.faultAt;
        if (text.fault != 0) {
            return -1;
        }
        now.texts.add(text);
        return now.texts.size() - 1;
    }

    int fault(int what) {
        return what == 0 ? latestFault : what == 1 ? latestFaultAt : -1;
    }

    boolean by(int t) {
        if (t < -1 || t >= now.texts.size()) {
            return false;
        }
        now.ruling = t;
        return true;
    }

    int filled(int t) {
        if (t < 0 || t >= now.texts.size()) {
            return -1;
        }
        int in = 0;
        for (Known k : now.texts.get(t).entries) {
            if (put(number(k.word), k.prior) > 0) {
                in++;
            }
        }
        return in;
    }

    int book(int i) {
        return i == -1 ? now.book.size() : in(i, 0, now.book.size() - 1) ? number(now.book.get(i).word) : -1;
    }

    int bars(int from, int into, int hands) {
        if (!word(from) || !word(into) || !in(hands, 0, 8)) {
            return -1;
        }
        if (comes(spelled(from), spelled(into), hands)) {
            return 0;
        }
        int was = now.ruling;
        now.ruling = -1;
        boolean free = comes(spelled(from), spelled(into), hands);
        now.ruling = was;
        return free ? 2 : 1;
    }

    long ways(int from, int into, int hands) {
        if (!word(from) || !word(into) || !in(hands, 0, 8)) {
            return -1;
        }
        return allWays(spelled(from), spelled(into), hands).longValueExact();
    }

    int row(int from, int into, int hands, int i) {
        if (!word(from) || !word(into) || !in(hands, 0, 8) || !in(i, 0, hands - 1)) {
            return -1;
        }
        String at = spelled(from);
        String goal = spelled(into);
        memo.clear();
        if (rest(0, at, -1, goal, hands).signum() == 0) {
            return -1;
        }
        int last = -1;
        int did = -1;
        for (int hand = 0; hand <= i; hand++) {
            did = -1;
            for (int place = 0; place < l && did < 0; place++) {
                for (char c = 'a'; c < 'a' + a && did < 0; c++) {
                    if (weight(hand, at, place, c, last) > 0
                            && rest(hand + 1, changed(at, place, c), place, goal, hands).signum() > 0) {
                        did = 10 * place + c - 'a';
                    }
                }
            }
            at = changed(at, did / 10, (char) ('a' + did % 10));
            last = did / 10;
        }
        return did;
    }

    int heard(int from, int hands, int i) {
        if (!word(from) || !in(hands, 0, 8)) {
            return -1;
        }
        return pick(new ArrayList<>(hearing(spelled(from), hands)), i);
    }

    static int pick(List<Integer> all, int i) {
        return i == -1 ? all.size() : i >= 0 && i < all.size() ? all.get(i) : -1;
    }

    long odds(int heard, int hands, int k, int what) {
        if (!word(heard) || !in(hands, 0, 8) || !in(k, 0, now.book.size() - 1) || !in(what, 0, 1)) {
            return -1;
        }
        BigInteger all = BigInteger.ZERO;
        BigInteger part = null;
        memo.clear();
        for (int i = 0; i < now.book.size(); i++) {
            BigInteger one = rest(0, now.book.get(i).word, -1, spelled(heard), hands)
                    .multiply(BigInteger.valueOf(now.book.get(i).prior));
            all = all.add(one);
            if (i == k) {
                part = one;
            }
        }
        if (all.signum() == 0) {
            return -1;
        }
        return (what == 0 ? part : all).divide(all.gcd(part)).longValueExact();
    }

    boolean byRoad(String from, String into, int[] road) {
        for (int hands = road[0]; hands <= road[1]; hands++) {
            if (comes(from, into, hands)) {
                return true;
            }
        }
        return false;
    }

    int[] roadOf(int road) {
        return rules() != null && in(road, 0, rules().roads.size() - 1) ? rules().roads.get(road) : null;
    }

    boolean road(int from, int into, int road) {
        return word(from) && word(into) && roadOf(road) != null
                && byRoad(spelled(from), spelled(into), roadOf(road));
    }

    int fits(int one, int road, int other, int way, int i) {
        if (!word(one) || !word(other) || roadOf(road) == null || roadOf(way) == null) {
            return -1;
        }
        List<Integer> all = new ArrayList<>();
        for (Known k : now.book) {
            if (byRoad(k.word, spelled(one), roadOf(road)) && byRoad(k.word, spelled(other), roadOf(way))) {
                all.add(number(k.word));
            }
        }
        return pick(all, i);
    }

    TreeSet<String> ends(String beginning) {
        TreeSet<String> ends = new TreeSet<>();
        for (Known k : now.book) {
            if (k.word.startsWith(beginning)) {
                ends.add(k.word.substring(beginning.length()));
            }
        }
        return ends;
    }

    int tree(int what) {
        if (!in(what, 0, 1)) {
            return -1;
        }
        Set<Set<String>> nodes = new HashSet<>();
        for (Known k : now.book) {
            for (int j = 0; j <= l; j++) {
                nodes.add(ends(k.word.substring(0, j)));
            }
        }
        int arcs = 0;
        for (Set<String> node : nodes) {
            Set<Character> letters = new HashSet<>();
            for (String end : node) {
                if (!end.isEmpty()) {
                    letters.add(end.charAt(0));
                }
            }
            arcs += letters.size();
        }
        return what == 0 ? nodes.size() : arcs;
    }

    boolean shares(int i, int j, int k) {
        int last = now.book.size() - 1;
        return in(i, 0, last) && in(j, 0, last) && in(k, 0, l)
                && ends(now.book.get(i).word.substring(0, k)).equals(ends(now.book.get(j).word.substring(0, k)));
    }

    int near(int w, int wrongs, int i) {
        if (!word(w) || !in(wrongs, 0, l)) {
            return -1;
        }
        List<Integer> all = new ArrayList<>();
        for (Known k : now.book) {
            int unlike = 0;
            for (int p = 0; p < l; p++) {
                unlike += k.word.charAt(p) == spelled(w).charAt(p) ? 0 : 1;
            }
            if (unlike <= wrongs) {
                all.add(number(k.word));
            }
        }
        return pick(all, i);
    }

    int apart(int hands) {
        int size = now.book.size();
        if (size > 16 || !in(hands, 0, 8)) {
            return -1;
        }
        List<Set<Integer>> heard = new ArrayList<>();
        for (Known k : now.book) {
            heard.add(hearing(k.word, hands));
        }
        boolean[][] taken = new boolean[size][size];
        for (int i = 0; i < size; i++) {
            for (int j = 0; j < size; j++) {
                Set<Integer> common = new HashSet<>(heard.get(i));
                common.retainAll(heard.get(j));
                taken[i][j] = i != j && !common.isEmpty();
            }
        }
        int best = 0;
        for (int mask = 0; mask < 1 << size; mask++) {
            if (Integer.bitCount(mask) > Integer.bitCount(best) && allApart(mask, taken)) {
                best = mask;
            }
        }
        return best;
    }

    static boolean allApart(int mask, boolean[][] taken) {
        for (int i = 0; i < taken.length; i++) {
            for (int j = 0; j < i; j++) {
                if ((mask >> i & 1) == 1 && (mask >> j & 1) == 1 && taken[i][j]) {
                    return false;
                }
            }
        }
        return true;
    }

    boolean log(int hands) {
        if (!in(hands, 0, 8)) {
            return false;
        }
        now.logHands = hands;
        now.told.clear();
        return true;
    }

    int said(int hand, int w, int time) {
        if (!in(hand, 0, now.logHands) || w != -1 && !word(w) || !in(time, 0, 99) || now.told.size() == 40) {
            return -1;
        }
        now.told.add(new int[] {hand, w, time});
        return now.told.size();
    }

    int broke(int time, int what) {
        if (!in(time, 0, 99) || !in(what, 0, 1)) {
            return -1;
        }
        String[] known = new String[now.logHands + 1];
        for (int[] one : now.told) {
            if (one[2] <= time) {
                known[one[0]] = one[1] < 0 ? null : spelled(one[1]);
            }
        }
        for (int count = 0; count <= now.logHands; count++) {
            for (int mask = 0; mask < 1 << now.logHands; mask++) {
                if (Integer.bitCount(mask) == count && canBe(mask, known)) {
                    return what == 0 ? count : mask;
                }
            }
        }
        throw new IllegalStateException();
    }

    Set<String> anyWord() {
        Set<String> states = new HashSet<>();
        for (int w = 0; w < n; w++) {
            states.add(spelled(w) + " -1");
        }
        return states;
    }

    boolean canBe(int mask, String[] known) {
        Set<String> states = anyWord();
        for (int behind = 0; behind < known.length; behind++) {
            if (behind > 0) {
                int hand = behind - 1;
                states = (mask >> hand & 1) == 0 ? step(hand, states) : states.isEmpty() ? states : anyWord();
            }
            String only = known[behind];
            if (only != null) {
                states.removeIf(s -> !s.startsWith(only + " "));
            }
        }
        return !states.isEmpty();
    }

    int message(int seed, int w, int hands) {
        if (!in(seed, 0, 9999) || !word(w) || !in(hands, 1, 8)) {
            return -1;
        }
        long x = seed * 19L + 1;
        String at = spelled(w);
        int last = -1;
        for (int hand = 0; hand < hands; hand++) {
            List<int[]> can = new ArrayList<>();
            for (int place = 0; place < l; place++) {
                for (char c = 'a'; c < 'a' + a; c++) {
                    if (weight(hand, at, place, c, last) > 0) {
                        can.add(new int[] {place, c});
                    }
                }
            }
            if (can.isEmpty()) {
                break;
            }
            int[] drawn = can.get((int) (x % can.size()));
            x = (x * 211 + 53) % 30119;
            at = changed(at, drawn[0], (char) drawn[1]);
            last = drawn[0];
        }
        return number(at);
    }

    int image() {
        image = now.copy();
        return now.book.size();
    }

    int back() {
        now = image.copy();
        return now.book.size();
    }

    int about(int what) {
        int[] all = {a, l, n, now.texts.size(), now.ruling, now.book.size(), now.logHands, now.told.size(),
            tape.length(), rules() == null ? 0 : rules().roads.size()};
        if (what >= 0 && what < 10) {
            return all[what];
        }
        return in(what, 10, 9 + now.book.size()) ? now.book.get(what - 10).prior : -2;
    }
}
