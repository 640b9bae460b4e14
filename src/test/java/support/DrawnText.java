import java.util.Random;

/** A drawn text of up to 300 bytes: by the grammar, and at times with a few bytes spoiled. */
final class DrawnText {
    private static final String[] NAMES = {"place", "from", "into", "hand", "last", "far"};
    private static final String[] SIGNS = {"<", "<=", ">", ">=", "=", "#"};
    private static final String[] SPOILS = {"!", "10000", " ", "<=", "- ", "((", "not ", "may ", ";", "aa", "9", "to", "\t"};

    private final Random random;
    private final int a;
    private final int l;

    DrawnText(Random random, int a, int l) {
        this.random = random;
        this.a = a;
        this.l = l;
    }

    private boolean odds(int oneIn) {
        return random.nextInt(oneIn) == 0;
    }

    String source() {
        StringBuilder s = new StringBuilder();
        boolean may = false;
        boolean weight = false;
        int clauses = odds(8) ? 20 + random.nextInt(8) : random.nextInt(7);
        for (int i = 0; i < clauses; i++) {
            int kind = random.nextInt(4);
            if (kind == 0 && (!may || odds(12))) {
                may = true;
                s.append("may ").append(either()).append(';');
            } else if (kind == 1 && (!weight || odds(12))) {
                weight = true;
                s.append("weight ").append(sum(0)).append(odds(3) ? "\n;" : ";");
            } else if (kind == 2 || odds(3)) {
                s.append("book ").append(word()).append(' ').append(odds(30) ? random.nextInt(12) : 1 + random.nextInt(9)).append(';');
            } else {
                int least = random.nextInt(4);
                s.append("road ").append(least).append(" to ").append(least + random.nextInt(odds(12) ? 9 : 3)).append(';');
            }
            s.append(odds(2) ? " " : "");
        }
        if (odds(4) && s.length() > 0) {
            int at = random.nextInt(s.length());
            s.replace(at, Math.min(s.length(), at + random.nextInt(3)), SPOILS[random.nextInt(SPOILS.length)]);
        }
        if (odds(15) && s.length() > 0) {
            s.setLength(random.nextInt(s.length()));
        }
        if (s.length() > 300) {
            s.setLength(300);
        }
        return s.toString();
    }

    private String word() {
        StringBuilder s = new StringBuilder();
        int length = odds(40) ? l + 1 : l;
        for (int i = 0; i < length; i++) {
            s.append((char) ('a' + random.nextInt(odds(60) ? a + 1 : a)));
        }
        return s.toString();
    }

    private String either() {
        String s = both();
        while (odds(3)) {
            s += " or " + both();
        }
        return s;
    }

    private String both() {
        String s = ask(0);
        while (odds(4)) {
            s += " and " + ask(0);
        }
        return s;
    }

    private String ask(int depth) {
        if (depth < 9 && odds(depth > 1 ? 2 : 5)) {
            return "not " + ask(depth + 1);
        }
        return sum(depth) + SIGNS[random.nextInt(6)] + sum(depth);
    }

    private String sum(int depth) {
        String s = product(depth);
        while (odds(3)) {
            s += (odds(2) ? "+" : "-") + product(depth);
        }
        return s;
    }

    private String product(int depth) {
        String s = one(depth);
        while (odds(4)) {
            s += (odds(2) ? "*" : "/ ") + one(depth);
        }
        return s;
    }

    private String one(int depth) {
        int kind = random.nextInt(12);
        if (kind == 0 && depth < 9) {
            return "(" + sum(depth + 1) + ")";
        }
        if (kind == 1 && depth < 9) {
            return "-" + one(depth + 1);
        }
        if (kind < 5) {
            return Integer.toString(odds(12) ? random.nextInt(10003) : random.nextInt(4));
        }
        return NAMES[random.nextInt(6)];
    }
}
