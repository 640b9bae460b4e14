import java.util.Random;

/** Runs of drawn calls on the class and on the plain model beside it: all answers have to be the same. */
public final class RandomRuns {
    private static final int RUNS = Integer.getInteger("runs", 400);
    private static int wrong = 0;

    private final Random random;
    private final OneLetterWrong x;
    private final Plain plain;
    private final StringBuilder past = new StringBuilder();
    private int calls = 0;

    private RandomRuns(long seed) {
        random = new Random(seed);
        int a = random.nextInt(6) == 0 ? random.nextInt(12) - 3 : 2 + random.nextInt(4);
        int l = random.nextInt(3) == 0 ? random.nextInt(14) - 2 : 2 + random.nextInt(3);
        x = new OneLetterWrong(a, l);
        plain = new Plain(a, l);
        past.append("seed ").append(seed).append(": new(").append(a).append(", ").append(l).append(")");
    }

    public static void main(String[] args) {
        for (int run = 0; run < RUNS && wrong < 10; run++) {
            new RandomRuns(run).go();
        }
        if (wrong > 0) {
            System.exit(1);
        }
        System.out.println(RUNS + " drawn runs: all answers are the plain model's");
    }

    private void go() {
        int before = wrong;
        if (random.nextInt(3) == 0) {
            fillUp();
        }
        for (int i = 0; i < 120 && calls < 500 && wrong == before; i++) {
            if (random.nextInt(9) == 0) {
                layText();
            } else {
                call(random.nextInt(29));
            }
        }
    }

    private void same(String call, long got, long want) {
        calls++;
        past.append("; ").append(call).append("=").append(got);
        if (got != want) {
            wrong++;
            System.out.println(past + " but due is " + want);
        }
    }

    private static long bit(boolean b) {
        return b ? 1 : 0;
    }

    /** Mostly within the bounds, at times just outside or far away. */
    private int within(int least, int most) {
        int kind = random.nextInt(40);
        if (kind == 0) {
            return least - 1;
        }
        if (kind == 1) {
            return most + 1;
        }
        if (kind == 2) {
            return random.nextInt();
        }
        return least + random.nextInt(Math.max(1, most - least + 1));
    }

    private int word() {
        if (random.nextInt(3) == 0 && !plain.now.book.isEmpty()) {
            return plain.number(plain.now.book.get(random.nextInt(plain.now.book.size())).word);
        }
        return within(0, plain.n - 1);
    }

    private int hands() {
        return plain.n > 100 ? within(0, random.nextInt(4) == 0 ? 8 : 3) : within(0, 8);
    }

    private int index() {
        return random.nextInt(3) == 0 ? -1 : within(0, Math.max(1, plain.now.book.size()));
    }

    /** Brings the book and the log near to what they may have at most, so that runs meet full ones. */
    private void fillUp() {
        int most = Math.min(36 + random.nextInt(5), plain.n);
        for (int i = 0; i < 200 && plain.now.book.size() < most; i++) {
            int w = random.nextInt(plain.n);
            int p = 1 + random.nextInt(9);
            same("put(" + w + ", " + p + ")", x.put(w, p), plain.put(w, p));
        }
        int hands = random.nextInt(plain.n > 100 ? 4 : 9);
        same("log(" + hands + ")", bit(x.log(hands)), bit(plain.log(hands)));
        for (int i = 34 + random.nextInt(7); i > 0; i--) {
            int hand = random.nextInt(hands + 1);
            int w = random.nextInt(4) == 0 ? -1 : random.nextInt(plain.n);
            int time = random.nextInt(100);
            same("said(" + hand + ", " + w + ", " + time + ")", x.said(hand, w, time), plain.said(hand, w, time));
        }
    }

    private void layText() {
        String source = new DrawnText(random, plain.a, plain.l).source();
        same("end(0)", x.end(0), plain.end(0));
        for (int from = 0; from < source.length(); from += 20) {
            int[] f = Tape.fives(source, from);
            same("feed", x.feed(f[0], f[1], f[2], f[3], f[4]), plain.feed(f));
        }
        int length = source.length();
        same("end(" + length + ")", x.end(length), plain.end(length));
        int number = plain.text();
        same("text() of <" + source + ">", x.text(), number);
        same("fault(0)", x.fault(0), plain.fault(0));
        same("fault(1)", x.fault(1), plain.fault(1));
        if (number >= 0 && random.nextInt(4) > 0) {
            same("by(" + number + ")", bit(x.by(number)), bit(plain.by(number)));
        }
    }

    private void call(int which) {
        if (which < 10) {
            callState(which);
        } else if (which < 19) {
            callPaths(which);
        } else {
            callRest(which);
        }
    }

    private void callState(int which) {
        switch (which) {
            case 0, 1 -> {
                for (int i = random.nextInt(6); i >= 0; i--) {
                    int w = word();
                    int p = within(1, 9);
                    same("put(" + w + ", " + p + ")", x.put(w, p), plain.put(w, p));
                }
            }
            case 2 -> {
                int w = word();
                same("take(" + w + ")", x.take(w), plain.take(w));
            }
            case 3 -> {
                int[] f = {random.nextInt(), random.nextInt(), random.nextInt(), random.nextInt(), random.nextInt()};
                same("feed(..)", x.feed(f[0], f[1], f[2], f[3], f[4]), plain.feed(f));
            }
            case 4 -> {
                int k = within(0, plain.tape.length());
                same("end(" + k + ")", x.end(k), plain.end(k));
            }
            case 5 -> same("text()", x.text(), plain.text());
            case 6 -> {
                int what = within(0, 1);
                same("fault(" + what + ")", x.fault(what), plain.fault(what));
            }
            case 7 -> {
                int t = within(-1, 3);
                same("by(" + t + ")", bit(x.by(t)), bit(plain.by(t)));
            }
            case 8 -> {
                int t = within(0, 3);
                same("filled(" + t + ")", x.filled(t), plain.filled(t));
            }
            default -> {
                int i = index();
                same("book(" + i + ")", x.book(i), plain.book(i));
            }
        }
    }

    private void callPaths(int which) {
        int from = word();
        int into = word();
        int n = hands();
        int i = index();
        String three = "(" + from + ", " + into + ", " + n;
        switch (which) {
            case 10 -> same("bars" + three + ")", x.bars(from, into, n), plain.bars(from, into, n));
            case 11 -> same("ways" + three + ")", x.ways(from, into, n), plain.ways(from, into, n));
            case 12 -> {
                for (int hand = -1; hand <= Math.max(0, Math.min(n, 8)); hand++) {
                    same("row" + three + ", " + hand + ")", x.row(from, into, n, hand), plain.row(from, into, n, hand));
                }
            }
            case 13 -> {
                int j = random.nextInt(2) == 0 ? -1 : within(0, plain.n / 2);
                same("heard(" + from + ", " + n + ", " + j + ")", x.heard(from, n, j), plain.heard(from, n, j));
            }
            case 14, 15 -> {
                int what = within(0, 1);
                same("odds(" + from + ", " + n + ", " + i + ", " + what + ")", x.odds(from, n, i, what),
                        plain.odds(from, n, i, what));
            }
            case 16 -> {
                int road = within(0, 1);
                same("road(" + from + ", " + into + ", " + road + ")", bit(x.road(from, into, road)),
                        bit(plain.road(from, into, road)));
            }
            case 17 -> {
                int road = within(0, 1);
                int way = within(0, 1);
                same("fits(" + from + ", " + road + ", " + into + ", " + way + ", " + i + ")",
                        x.fits(from, road, into, way, i), plain.fits(from, road, into, way, i));
            }
            default -> {
                int m = plain.n > 100 ? within(0, 3) : within(0, 8);
                same("apart(" + m + ")", x.apart(m), plain.apart(m));
            }
        }
    }

    private void callRest(int which) {
        int i = within(0, plain.now.book.size());
        int j = within(0, plain.now.book.size());
        int k = within(0, plain.l);
        switch (which) {
            case 19 -> {
                int what = within(0, 1);
                same("tree(" + what + ")", x.tree(what), plain.tree(what));
            }
            case 20 -> same("shares(" + i + ", " + j + ", " + k + ")", bit(x.shares(i, j, k)), bit(plain.shares(i, j, k)));
            case 21 -> {
                int w = word();
                int p = index();
                same("near(" + w + ", " + k + ", " + p + ")", x.near(w, k, p), plain.near(w, k, p));
            }
            case 22 -> {
                int n = plain.n > 100 ? within(0, 3) : within(0, 8);
                same("log(" + n + ")", bit(x.log(n)), bit(plain.log(n)));
            }
            case 23, 24 -> {
                for (int more = random.nextInt(8); more >= 0; more--) {
                    int hand = within(0, plain.now.logHands);
                    int w = random.nextInt(6) == 0 ? -1 : word();
                    int time = within(0, random.nextBoolean() ? 99 : 5);
                    same("said(" + hand + ", " + w + ", " + time + ")", x.said(hand, w, time), plain.said(hand, w, time));
                }
            }
            case 25 -> {
                int time = within(0, random.nextBoolean() ? 99 : 5);
                int what = within(0, 1);
                same("broke(" + time + ", " + what + ")", x.broke(time, what), plain.broke(time, what));
            }
            case 26 -> {
                int seed = within(0, 9999);
                int w = word();
                int n = within(1, 8);
                same("message(" + seed + ", " + w + ", " + n + ")", x.message(seed, w, n), plain.message(seed, w, n));
            }
            case 27 -> {
                if (random.nextInt(3) == 0) {
                    same("image()", x.image(), plain.image());
                } else if (random.nextInt(3) == 0) {
                    same("back()", x.back(), plain.back());
                }
            }
            default -> {
                int what = within(0, 11 + plain.now.book.size());
                same("about(" + what + ")", x.about(what), plain.about(what));
            }
        }
    }
}
