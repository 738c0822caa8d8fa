import java.io.IOException;
import java.lang.reflect.Field;
import java.lang.reflect.Member;
import java.lang.reflect.Method;
import java.lang.reflect.Modifier;
import java.nio.file.Files;
import java.nio.file.Path;
import java.util.List;
import java.util.Set;
import java.util.TreeSet;
import java.util.regex.Matcher;
import java.util.regex.Pattern;

/** The rules of LANGUAGE.md that can be seen without running the class. */
public final class LanguageTest {
    private static final Checks CHECKS = new Checks();
    private static final Set<String> FACE = Set.of(
        "state", "power", "mute", "set", "act", "days", "feed", "end", "text", "fault", "of", "powerOf", "book", "goes",
        "peace", "shows", "alike", "weighs", "lightest", "hears", "heard", "count", "signs", "pins", "table", "tables",
        "stand", "worth", "sent", "load", "carried", "promise", "kept", "hat", "hats", "border", "map", "cloth", "cloths",
        "interpreter", "word", "silence", "undo", "image", "look");

    public static void main(String[] args) throws IOException {
        face();
        inside();
        calls();
        words(bare(Files.readString(Path.of("src/main/java/BasketEnvoys.java"))));
        CHECKS.finish();
    }

    private static void rule(String what, boolean kept) {
        CHECKS.due(what, kept, true);
    }

    private static boolean isMade(Member m) {
        return m.isSynthetic();
    }

    private static void face() {
        Class<?> c = BasketEnvoys.class;
        Set<String> open = new TreeSet<>();
        for (Method m : c.getDeclaredMethods()) {
            if (!Modifier.isPrivate(m.getModifiers())) {
                rule("rule 1, public: " + m, Modifier.isPublic(m.getModifiers()) && !Modifier.isStatic(m.getModifiers()));
                rule("rule 1, once: " + m, open.add(m.getName()));
            } else {
                rule("rule 1, a private name: " + m, !FACE.contains(m.getName()));
            }
        }
        rule("rule 1, the face: " + open, open.equals(FACE));
        rule("rule 1, final", Modifier.isFinal(c.getModifiers()) && Modifier.isPublic(c.getModifiers()));
        for (Field f : c.getDeclaredFields()) {
            boolean isFace = f.getName().equals("NONE");
            rule("rule 1, field " + f, isMade(f) || isFace == !Modifier.isPrivate(f.getModifiers()));
        }
    }

    private static void inside() {
        Set<Class<?>> types = Set.of(int.class, long.class, boolean.class, char.class, String.class);
        List<Class<?>> all = new java.util.ArrayList<>(List.of(BasketEnvoys.class.getDeclaredClasses()));
        rule("rule 11, classes: " + all.size(), all.size() < 12);
        all.add(BasketEnvoys.class);
        for (Class<?> c : all) {
            int fields = 0;
            for (Field f : c.getDeclaredFields()) {
                boolean isStatic = Modifier.isStatic(f.getModifiers());
                fields += isStatic ? 0 : 1;
                rule("rule 5, " + f, !isStatic || Modifier.isFinal(f.getModifiers()) && types.contains(f.getType()));
            }
            rule("rule 11, fields of " + c + ": " + fields, fields <= 20);
            boolean isNested = c != BasketEnvoys.class;
            rule("rule 2, " + c, !isNested || Modifier.isStatic(c.getModifiers()));
            rule("rule 1, " + c, !isNested || !Modifier.isPublic(c.getModifiers()));
            for (Method m : c.getDeclaredMethods()) {
                rule("rule 11, parameters of " + m, m.getParameterCount() <= 7);
                rule("rule 1, a name of the face: " + m, !isNested || !FACE.contains(m.getName()));
                rule("rule 6, " + m, !Set.of("equals", "hashCode", "toString").contains(m.getName()));
                rule("rule 6, no bridge or lambda: " + m, !m.isSynthetic());
            }
        }
    }

    private static void calls() {
        if (!Calls.canBeRead()) {
            System.out.println("no javap here: how deep calls go was not tried");
            return;
        }
        Calls calls = new Calls(BasketEnvoys.class);
        for (String name : FACE) {
            rule("the calls are read: " + name, calls.methods().contains("BasketEnvoys." + name));
        }
        for (String method : calls.methods()) {
            rule("rule 11, deep: " + method + ": " + calls.depth(method), calls.depth(method) <= 8);
        }
        // these carry their depth as an argument
        Set<String> may = Set.of("BasketEnvoys$Reader.readAny", "BasketEnvoys$Reader.readCondition", "BasketEnvoys$Riddles.paint");
        rule("rule 8, what calls itself: " + calls.recursive(), calls.recursive().equals(may));
    }

    /** The source without comments and without what stands in quotes. */
    private static String bare(String source) {
        return source.replaceAll("(?s)/\\*.*?\\*/", " ").replaceAll("//[^\n]*", " ")
            .replaceAll("'(\\\\.|[^'\\\\])'", "'c'").replaceAll("\"(\\\\.|[^\"\\\\])*\"", "\"\"");
    }

    private static void words(String source) {
        Matcher banned = Pattern.compile("\\b(throw|throws|try|catch|finally|synchronized|assert|volatile|transient|native"
            + "|strictfp|yield|var|Object|Integer\\.valueOf|Exact|HashMap|Map|Set|Random|Thread|Class|exit)\\b|->|::|@").matcher(source);
        rule("rules 3 to 6: " + (banned.find() ? banned.group() : ""), !banned.reset().find());
        rule("rule 1, no package", !source.contains("package "));
        Matcher imports = Pattern.compile("import ([^;]*);").matcher(source);
        while (imports.find()) {
            rule("rule 4, import " + imports.group(1), imports.group(1).equals("java.util.Arrays"));
        }
        Matcher library = Pattern.compile("\\b(String|Arrays|System|Math|Integer|Long|Character)\\.(\\w+)").matcher(source);
        Set<String> may = Set.of("Arrays.fill", "System.arraycopy", "Math.max", "Math.min", "Integer.bitCount");
        while (library.find()) {
            rule("rule 4, " + library.group(), may.contains(library.group()));
        }
        rule("rule 10, texts joined by +", !Pattern.compile("\"\"\\s*\\+|\\+\\s*\"\"").matcher(source).find());
        rule("rule 9, no endless loop", !Pattern.compile("while \\(true\\)|for \\([^;]*;\\s*;").matcher(source).find());
        methodsAreShort(source);
    }

    private static void methodsAreShort(String source) {
        String[] lines = source.split("\n");
        int begun = -1;
        for (int i = 0; i < lines.length; i++) {
            if (lines[i].matches("( {4}| {8})[A-Za-z].*\\) \\{")) {
                begun = i;
            }
            if (begun >= 0 && lines[i].equals(lines[begun].replaceAll("\\S.*", "") + "}")) {
                rule("rule 11, lines of " + lines[begun].trim() + ": " + (i - begun + 1), i - begun + 1 <= 60);
                begun = -1;
            }
        }
    }
}
