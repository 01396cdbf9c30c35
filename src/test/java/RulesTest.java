import java.io.IOException;
import java.lang.reflect.Constructor;
import java.lang.reflect.Field;
import java.lang.reflect.Method;
import java.lang.reflect.Modifier;
import java.nio.file.Files;
import java.nio.file.Path;
import java.util.ArrayList;
import java.util.Arrays;
import java.util.HashSet;
import java.util.List;
import java.util.Set;
import java.util.TreeSet;
import java.util.regex.Matcher;
import java.util.regex.Pattern;

/** The rules of LANGUAGE.md that can be looked at from outside: the face, names, sizes, words that may not stand. */
public final class RulesTest {
    private static final String[] FACE = {"feed", "text", "fault", "named", "man", "meeting", "shows", "law", "ring",
        "hangUp", "set", "putOff", "go", "ahead", "delay", "bestRing", "near", "liars", "median", "agree", "needs",
        "certain", "latest", "rests", "rest", "apart", "quiet", "firstMissed", "longest", "queue", "there", "see",
        "strike", "known", "rates", "chance", "tried", "undo", "keep", "back", "count"};
    private static final String[] NEVER = {"->", "::", "finally", "synchronized", "assert", "static {", "Exact(",
        "System.out", "getMessage", "try", "catch", "double", "float", "Random", "Object ", "HashMap", "instanceof"};

    public static void main(String[] args) throws IOException {
        face();
        insides();
        source(Files.readString(Path.of("src/main/java/SpeakClock.java")));
        Due.end();
    }

    private static void face() {
        Set<String> open = new TreeSet<>();
        for (Method m : SpeakClock.class.getDeclaredMethods()) {
            if (!Modifier.isPrivate(m.getModifiers())) {
                Due.is("rule 1: public " + m.getName(), Modifier.isPublic(m.getModifiers()), true);
                open.add(m.getName());
            }
        }
        Due.is("rule 1: the methods of the face " + open, open.equals(new TreeSet<>(Arrays.asList(FACE))), true);
        for (Field f : SpeakClock.class.getDeclaredFields()) {
            boolean isPrivate = Modifier.isPrivate(f.getModifiers());
            Due.is("rule 1: private " + f.getName(), isPrivate, !f.getName().equals("NONE"));
        }
        Constructor<?>[] made = SpeakClock.class.getDeclaredConstructors();
        Due.is("rule 1: one constructor", made.length, 1);
        Due.is("rule 1: a public one", Modifier.isPublic(made[0].getModifiers()), true);
        Due.is("rule 1: a final class", Modifier.isFinal(SpeakClock.class.getModifiers()), true);
    }

    private static void insides() {
        Set<String> face = new HashSet<>(Arrays.asList(FACE));
        List<Class<?>> all = new ArrayList<>(Arrays.asList(SpeakClock.class.getDeclaredClasses()));
        Due.is("rule 11: twelve classes at most", all.size() + 1 <= 12, true);
        for (Class<?> inside : all) {
            Due.is("rule 1: static " + inside, Modifier.isStatic(inside.getModifiers()), true);
            for (Method m : inside.getDeclaredMethods()) {
                Due.is("rule 1: the name of " + m, face.contains(m.getName()), false);
            }
        }
        all.add(SpeakClock.class);
        for (Class<?> one : all) {
            int fields = 0;
            for (Field f : one.getDeclaredFields()) {
                if (Modifier.isStatic(f.getModifiers())) {
                    Due.is("rule 5: final " + f, Modifier.isFinal(f.getModifiers()), true);
                } else {
                    fields++;
                }
            }
            Due.is("rule 11: fields of " + one + ": " + fields, fields <= 20, true);
            for (Method m : one.getDeclaredMethods()) {
                Due.is("rule 11: parameters of " + m, m.getParameterCount() <= 7, true);
                if (Modifier.isPrivate(m.getModifiers())) {
                    Due.is("rule 1: the name of " + m, face.contains(m.getName()), false);
                }
            }
        }
    }

    private static void source(String source) {
        String code = source.replaceAll("(?s)/\\*.*?\\*/", "").replaceAll("//[^\n]*", "");
        for (String word : NEVER) {
            Due.is("a word that may not stand: " + word, code.contains(word), false);
        }
        Matcher imports = Pattern.compile("import ([^;]*);").matcher(code);
        while (imports.find()) {
            Due.is("rule 4: import " + imports.group(1), imports.group(1).equals("java.util.NoSuchElementException"),
                    true);
        }
        Due.is("no package", code.contains("package "), false);
        for (char sign : source.toCharArray()) {
            if (sign > 127) {
                Due.is("rule 4: a sign above 127", sign, 0);
            }
        }
        lengths(code);
        making(code);
    }

    private static void lengths(String code) {
        Matcher methods = Pattern.compile("(?m)^( {4}| {8})[^ \n][^\n;=]*\\) *(throws [^\n]*)?\\{\n").matcher(code);
        int found = 0;
        while (methods.find()) {
            int end = code.indexOf("\n" + methods.group(1) + "}", methods.end() - 1);
            int lines = code.substring(methods.start(), end).split("\n").length + 1;
            Due.is("rule 11: " + lines + " lines of " + methods.group().trim(), lines <= 60, true);
            found++;
        }
        Due.is("methods are found", found > 100, true);
    }

    /** Rule 12: what is made is made with the object; only exceptions are made by calls. */
    private static void making(String code) {
        Matcher made = Pattern.compile("(?m)^.*\\bnew (\\w+).*$").matcher(code);
        while (made.find()) {
            boolean field = made.group().matches(" {4}(private final| {4}final| {4}Plan) .* = new .*;");
            Due.is("rule 12: " + made.group().trim(), field || made.group(1).endsWith("Exception"), true);
        }
    }
}
