import java.lang.reflect.Method;
import java.lang.reflect.Modifier;
import java.util.Arrays;
import java.util.Comparator;
import java.util.List;

/**
 * Every method of the face with numbers inside, at and beyond the document's bounds, in all ways in which its
 * parameters can have them: the answers are the plain model's, and so are the counts that the calls leave behind.
 */
public final class WrongInputs {
    private static final int[][] SIZES = {{2, 2}, {3, 2}, {5, 3}};
    private static final String RULES = "may place # last or into = 1; weight place + 2 * into; road 0 to 1; road 1 to 2; book bb 4;";
    private static final int MOST_CALLS = 450;

    private static int wrong = 0;
    private static long asked = 0;

    private final int a;
    private final int l;
    private final boolean furnished;
    private OneLetterWrong x;
    private Plain plain;
    private int calls;

    private WrongInputs(int a, int l, boolean furnished) {
        this.a = a;
        this.l = l;
        this.furnished = furnished;
        begin();
    }

    public static void main(String[] args) throws Exception {
        Method[] face = OneLetterWrong.class.getDeclaredMethods();
        Arrays.sort(face, Comparator.comparing(Method::getName));
        for (Method m : face) {
            // all that feed is given are bytes, so nothing can be wrong with them
            if (Modifier.isPublic(m.getModifiers()) && !m.getName().equals("feed")) {
                for (int[] size : SIZES) {
                    new WrongInputs(size[0], size[1], false).all(m);
                    new WrongInputs(size[0], size[1], true).all(m);
                }
            }
        }
        System.out.println(asked + " calls with numbers inside and outside the bounds, " + wrong + " wrong");
        System.exit(wrong > 0 ? 1 : 0);
    }

    /** An object is used for 512 calls at most, so a new one comes now and then. */
    private void begin() {
        x = new OneLetterWrong(a, l);
        plain = new Plain(a, l);
        calls = 0;
        if (!furnished) {
            return;
        }
        String rules = l == 2 ? RULES : RULES.replace("book bb", "book bbb");
        Tape.read(x, rules);
        plain.tape.append(rules);
        plain.text();
        x.by(0);
        plain.by(0);
        for (int word = 0; word < 4; word++) {
            x.put(word, word + 1);
            plain.put(word, word + 1);
        }
        x.log(2);
        plain.log(2);
        x.said(0, 1, 50);
        plain.said(0, 1, 50);
        x.image();
        plain.image();
    }

    private int[] numbers(int parameters) {
        int last = plain.n - 1;
        if (parameters > 3) {
            return new int[] {Integer.MIN_VALUE, -2, -1, 0, 1, last, last + 1, Integer.MAX_VALUE};
        }
        return new int[] {Integer.MIN_VALUE, -2, -1, 0, 1, 2, 3, 8, 9, 10, 13, 99, 100, last, last + 1, 9999, 10000,
            Integer.MAX_VALUE - 9, Integer.MAX_VALUE};
    }

    private void all(Method m) throws Exception {
        Class<?>[] types = m.getParameterTypes();
        Method due = Plain.class.getDeclaredMethod(m.getName(), types);
        int[] numbers = numbers(types.length);
        long ways = 1;
        for (int i = 0; i < types.length; i++) {
            ways *= numbers.length;
        }
        for (long way = 0; way < ways && wrong < 20; way++) {
            Object[] given = new Object[types.length];
            long rest = way;
            for (int i = 0; i < given.length; i++) {
                given[i] = numbers[(int) (rest % numbers.length)];
                rest /= numbers.length;
            }
            one(m, due, given);
        }
    }

    private void one(Method m, Method due, Object[] given) throws Exception {
        Object got = m.invoke(x, given);
        Object want = due.invoke(plain, given);
        asked++;
        calls++;
        boolean like = got.equals(want);
        for (int what : List.of(3, 4, 5, 6, 7, 8)) {
            like &= x.about(what) == plain.about(what);
            calls++;
        }
        if (!like) {
            wrong++;
            System.out.println("of " + a + ", " + l + (furnished ? " with a text: " : ": ") + m.getName()
                    + Arrays.toString(given) + " answered " + got + ", due is " + want);
        }
        if (calls > MOST_CALLS) {
            begin();
        }
    }
}
