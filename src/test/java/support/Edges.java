import java.lang.reflect.InvocationTargetException;
import java.lang.reflect.Method;
import java.util.ArrayList;
import java.util.Arrays;
import java.util.Comparator;
import java.util.List;
import java.util.function.IntToLongFunction;
import java.util.function.LongSupplier;

/**
 * What the tests of the document's edges have in common. Each is a static method that is named after its
 * promise (or part of the terms) and its sentence, and says the sentence in the document's own words.
 */
abstract class Edges {
    static final int NONE = OneLetterWrong.NONE;
    static final int LEAST = Integer.MIN_VALUE;
    static final int MOST = Integer.MAX_VALUE;
    /** Numbers that nothing in the document reaches, those among them that wrap around when a little is added or taken. */
    static final int[] FAR = {LEAST, LEAST + 1, LEAST + 9, -65536, -1000, 1000, 65536, 1 << 30, MOST - 9, MOST - 1, MOST};

    private static final List<String> wrong = new ArrayList<>();

    /** All tests of a class; the machine ends with exit code 1 if one of them fails. */
    static void run(Class<?> tests) {
        int failed = 0;
        List<Method> all = of(tests);
        for (Method test : all) {
            List<String> found = failures(test);
            for (String one : found) {
                System.out.println(tests.getName() + "." + test.getName() + " " + sentence(test) + ": " + one);
            }
            failed += found.isEmpty() ? 0 : 1;
        }
        System.out.println(tests.getName() + ": " + all.size() + " edges, " + failed + " broken");
        if (failed > 0 || all.isEmpty()) {
            System.exit(1);
        }
    }

    static List<Method> of(Class<?> tests) {
        List<Method> all = new ArrayList<>();
        for (Method m : tests.getDeclaredMethods()) {
            if (m.isAnnotationPresent(Says.class)) {
                all.add(m);
            }
        }
        all.sort(Comparator.comparing(Method::getName));
        return all;
    }

    static String sentence(Method test) {
        Says says = test.getAnnotation(Says.class);
        return "(" + says.at() + ": \"" + String.join("\", \"", says.value()) + "\")";
    }

    /** What a test finds wrong; that a call throws is wrong too. */
    static List<String> failures(Method test) {
        wrong.clear();
        try {
            test.setAccessible(true);
            test.invoke(null);
        } catch (InvocationTargetException e) {
            wrong.add("a call threw " + e.getCause());
        } catch (IllegalAccessException e) {
            wrong.add("the test can't be called: " + e);
        }
        return new ArrayList<>(wrong);
    }

    static void due(String what, long got, long want) {
        if (got != want) {
            wrong.add(what + " answered " + got + ", due is " + want);
        }
    }

    static void due(String what, boolean got, boolean want) {
        if (got != want) {
            wrong.add(what + " answered " + got + ", due is " + want);
        }
    }

    static void due(String what, long[] got, long... want) {
        if (!Arrays.equals(got, want)) {
            wrong.add(what + " answered " + Arrays.toString(got) + ", due is " + Arrays.toString(want));
        }
    }

    /** A call that is refused: it answers what is due, and all stays as it is. */
    static void refused(String what, OneLetterWrong x, long want, LongSupplier call) {
        String before = state(x);
        due(what, call.getAsLong(), want);
        String after = state(x);
        if (!before.equals(after)) {
            wrong.add(what + " was to do nothing, but " + before + " became " + after);
        }
    }

    /** A call with one argument that is none of those told, just outside or far away: it is refused each time. */
    static void others(String what, OneLetterWrong x, long want, IntToLongFunction call, int... outside) {
        refused(what, x, want, () -> {
            long last = want;
            for (int one : outside) {
                last = call.applyAsLong(one);
                due(what + " of " + one, last, want);
            }
            for (int one : FAR) {
                last = call.applyAsLong(one);
                due(what + " of " + one, last, want);
            }
            return last;
        });
    }

    static long bit(boolean so) {
        return so ? 1 : 0;
    }

    /** All that can be seen of an object, by some 20 calls and two for each word of the book. */
    static String state(OneLetterWrong x) {
        StringBuilder s = new StringBuilder();
        for (int what = 0; what < 10; what++) {
            s.append(x.about(what)).append(' ');
        }
        int words = x.about(5);
        for (int i = 0; i < words; i++) {
            s.append(x.book(i)).append(':').append(x.about(10 + i)).append(' ');
        }
        s.append("fault ").append(x.fault(0)).append(' ').append(x.fault(1));
        s.append(" heard ").append(x.heard(0, 1, NONE)).append(" ways ").append(x.ways(0, 1, 3));
        s.append(" broke ").append(x.broke(0, 1)).append(' ').append(x.broke(99, 0)).append(' ').append(x.broke(99, 1));
        return s.toString();
    }

    /** The number of a word that is told by letters. */
    static int word(int letters, String spelled) {
        int number = 0;
        for (char c : spelled.toCharArray()) {
            number = number * letters + c - 'a';
        }
        return number;
    }

    /** A new object that is ruled by a text (which has to be without fault). */
    static OneLetterWrong ruled(int a, int l, String text) {
        OneLetterWrong x = new OneLetterWrong(a, l);
        due("reading of <" + text + ">", Tape.read(x, text), 0);
        due("ruling of <" + text + ">", x.by(0), true);
        return x;
    }

    /** What is wrong with a text, and where, on a new object; without a fault the place isn't looked at. */
    static void fault(int a, int l, String text, int kind, int place) {
        OneLetterWrong x = new OneLetterWrong(a, l);
        due("text() of <" + text + ">", Tape.read(x, text), kind == 0 ? 0 : NONE);
        due("FAULT of <" + text + ">", x.fault(0), kind);
        due("place of the FAULT of <" + text + ">", x.fault(1), kind == 0 ? NONE : place);
    }

    static void good(int a, int l, String text) {
        fault(a, l, text, 0, 0);
    }

    /** The weight, as a sum makes it, of the change of db (d 3, b 1) into dd by hand 0: place 1, from 1, into 3. */
    static void sum(String sum, int want) {
        OneLetterWrong x = ruled(5, 2, "weight " + sum + ";");
        due("weight " + sum, x.ways(word(5, "db"), word(5, "dd"), 1), want);
    }

    /** Whether hand 0 may do the same change. */
    static void may(String either, boolean want) {
        OneLetterWrong x = ruled(5, 2, "may " + either + ";");
        due("may " + either, x.bars(word(5, "db"), word(5, "dd"), 1), want ? 0 : 2);
    }

    /** All words that can be heard. */
    static long[] hears(OneLetterWrong x, int from, int n) {
        int many = x.heard(from, n, NONE);
        long[] all = new long[Math.max(0, many)];
        for (int i = 0; i < all.length; i++) {
            all[i] = x.heard(from, n, i);
        }
        return all;
    }

    /** All that the hands of a row do. */
    static long[] rowOf(OneLetterWrong x, int from, int into, int n) {
        long[] all = new long[n];
        for (int i = 0; i < n; i++) {
            all[i] = x.row(from, into, n, i);
        }
        return all;
    }

    static long[] bookOf(OneLetterWrong x) {
        long[] all = new long[Math.max(0, x.book(NONE))];
        for (int i = 0; i < all.length; i++) {
            all[i] = x.book(i);
        }
        return all;
    }

    static void putAll(OneLetterWrong x, int... words) {
        for (int word : words) {
            x.put(word, 1);
        }
    }

    /** The first words by number, with prior 1. */
    static void putFirst(OneLetterWrong x, int many) {
        for (int word = 0; word < many; word++) {
            x.put(word, 1);
        }
    }
}
