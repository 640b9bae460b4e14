import java.lang.reflect.Constructor;
import java.lang.reflect.Field;
import java.lang.reflect.Method;
import java.lang.reflect.Modifier;
import java.nio.charset.StandardCharsets;
import java.nio.file.Files;
import java.nio.file.Path;
import java.util.ArrayList;
import java.util.Arrays;
import java.util.List;
import java.util.Set;
import java.util.TreeSet;
import java.util.regex.Matcher;
import java.util.regex.Pattern;

/** What of LANGUAGE.md can be seen from the source's words and from the compiled class. */
public final class LanguageRules {
    private static final Set<String> FACE = new TreeSet<>(List.of(
            "int put(int,int)", "int take(int)", "int feed(int,int,int,int,int)", "int end(int)", "int text()",
            "int fault(int)", "boolean by(int)", "int filled(int)", "int book(int)", "int bars(int,int,int)",
            "long ways(int,int,int)", "int row(int,int,int,int)", "int heard(int,int,int)",
            "long odds(int,int,int,int)", "boolean road(int,int,int)", "int fits(int,int,int,int,int)",
            "int tree(int)", "boolean shares(int,int,int)", "int near(int,int,int)", "int apart(int)",
            "boolean log(int)", "int said(int,int,int)", "int broke(int,int)", "int message(int,int,int)",
            "int image()", "int back()", "int about(int)"));
    private static final List<String> REFUSED = List.of("\\bthrow\\b", "\\bthrows\\b", "\\btry\\b", "\\bcatch\\b",
            "\\bsynchronized\\b", "\\bassert\\b", "->", "::", "Exact\\b", "\\bSystem\\.(?!arraycopy\\b)", "\\bRandom\\b",
            "\\bThread\\b", "\\bimport (?!java\\.util\\.(Arrays|ArrayList|List);)", "\\bpackage\\b",
            "\\bhashCode\\b", "\\btoString\\b", "\\bwhile \\(true\\)", "for \\(;", "\\bprotected\\b", "\\bnative\\b",
            "\\bString\\b.*\\+ \"");
    private static int wrong = 0;

    private LanguageRules() {
    }

    private static void need(boolean so, String what) {
        if (!so) {
            wrong++;
            System.out.println("LANGUAGE.md: " + what);
        }
    }

    public static void main(String[] args) throws Exception {
        byte[] bytes = Files.readAllBytes(Path.of("src/main/java/OneLetterWrong.java"));
        String source = new String(bytes, StandardCharsets.ISO_8859_1);
        for (byte b : bytes) {
            need(b == 10 || b >= 32 && b < 127, "a sign that isn't plain: " + b);
        }
        words(bare(source));
        methods(bare(source));
        face();
        inside();
        if (wrong > 0) {
            System.exit(1);
        }
        System.out.println("the class keeps to the rules that can be seen");
    }

    /** Without comments, and with empty texts. */
    private static String bare(String source) {
        String without = Pattern.compile("/\\*.*?\\*/", Pattern.DOTALL).matcher(source).replaceAll("");
        return without.replaceAll("//[^\n]*", "").replaceAll("\"[^\"\n]*\"", "\"\"");
    }

    private static void words(String source) {
        for (String refused : REFUSED) {
            Matcher m = Pattern.compile(refused).matcher(source);
            need(!m.find(), "refused: " + refused);
        }
        need(source.split("\\bclass \\w+ \\{", -1).length - 1 <= 12, "more than twelve classes");
        Matcher m = Pattern.compile("\\bstatic (?!final )[^(\n]*;").matcher(source);
        need(!m.find(), "a static field that isn't final");
    }

    private static void methods(String source) {
        String[] lines = source.split("\n");
        Pattern head = Pattern.compile("^( {4}| {8})(?! )(?!.*\\b(class|enum|interface)\\b)[\\w\\[\\] ]+\\(([^)]*)\\) \\{$");
        for (int i = 0; i < lines.length; i++) {
            Matcher m = head.matcher(lines[i]);
            if (m.matches() && !lines[i].trim().matches("(if|for|while|switch|else).*")) {
                String close = m.group(1) + "}";
                int stop = i;
                while (!lines[stop].equals(close)) {
                    stop++;
                }
                need(stop - i <= 60, "a long method: " + lines[i].trim());
                need(m.group(3).isEmpty() || m.group(3).split(",").length <= 7, "many parameters: " + lines[i].trim());
            }
        }
    }

    private static String told(Method m) {
        List<String> types = new ArrayList<>();
        for (Class<?> c : m.getParameterTypes()) {
            types.add(c.getName());
        }
        return m.getReturnType().getName() + " " + m.getName() + "(" + String.join(",", types) + ")";
    }

    private static void face() throws Exception {
        Class<?> c = OneLetterWrong.class;
        need(c.getModifiers() == (Modifier.PUBLIC | Modifier.FINAL), "the class is public and final");
        Set<String> open = new TreeSet<>();
        Set<String> names = new TreeSet<>();
        for (Method m : c.getDeclaredMethods()) {
            if (Modifier.isPrivate(m.getModifiers())) {
                continue;
            }
            need(m.getModifiers() == Modifier.PUBLIC, "a method that isn't just public or private: " + m);
            open.add(told(m));
            names.add(m.getName());
        }
        need(open.equals(FACE), "the face is " + open);
        for (Method m : c.getDeclaredMethods()) {
            need(!Modifier.isPrivate(m.getModifiers()) || !names.contains(m.getName()), "a private " + m.getName());
        }
        for (Class<?> inner : c.getDeclaredClasses()) {
            for (Method m : inner.getDeclaredMethods()) {
                need(!names.contains(m.getName()), "a method inside bears the name " + m.getName());
            }
        }
        for (Field f : c.getDeclaredFields()) {
            boolean constant = f.getName().equals("NONE");
            need(constant || Modifier.isPrivate(f.getModifiers()), "an open field " + f);
            need(!constant || f.getModifiers() == (Modifier.PUBLIC | Modifier.STATIC | Modifier.FINAL), "NONE is " + f);
        }
        Constructor<?>[] made = c.getDeclaredConstructors();
        need(made.length == 1 && Modifier.isPublic(made[0].getModifiers())
                && Arrays.equals(made[0].getParameterTypes(), new Class<?>[] {int.class, int.class}), "the constructor");
    }

    private static void inside() {
        List<Class<?>> all = new ArrayList<>(List.of(OneLetterWrong.class.getDeclaredClasses()));
        for (Class<?> c : all) {
            need(Modifier.isStatic(c.getModifiers()), c + " isn't static");
            need(!Modifier.isPublic(c.getModifiers()) && !Modifier.isProtected(c.getModifiers()), c + " is open");
        }
        all.add(OneLetterWrong.class);
        for (Class<?> c : all) {
            int fields = 0;
            for (Field f : c.getDeclaredFields()) {
                fields += Modifier.isStatic(f.getModifiers()) ? 0 : 1;
                need(!Modifier.isStatic(f.getModifiers()) || Modifier.isFinal(f.getModifiers()), f + " can change");
            }
            need(fields <= 20, c + " has " + fields + " fields");
        }
    }
}
