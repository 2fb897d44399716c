import java.io.IOException;
import java.lang.reflect.Constructor;
import java.lang.reflect.Field;
import java.lang.reflect.Method;
import java.lang.reflect.Modifier;
import java.nio.file.Files;
import java.nio.file.Path;
import java.util.ArrayList;
import java.util.HashSet;
import java.util.List;
import java.util.Set;
import java.util.regex.Matcher;
import java.util.regex.Pattern;

/** The face, and the rules of ../shared/LANGUAGE.md that can be seen from outside or in the text. */
public final class LanguageTests {
    private static final String FACE = "size(I)I paint(II)I of(I)I feed(IIIII)I end(I)I row()I spilt()I tables()I fault()I"
        + " letter(III)I word(III)I reads(II)I read(II)I spoken(I)I pair(III)I partners(I)I pairs()I say(II)I hush(I)I"
        + " near(I)I nearAt(I)I mean(II)I forget(I)I tells()J price()I first(I)I lengths(I)I lost(II)I may()J sure(II)I"
        + " often(II)J yard(IIIII)I drop(I)I letting(I)I best(I)I rain(II)I image(I)I back(I)I count(I)I status()I";
    private static int wrong = 0;

    private static void check(int rule, String what, boolean holds) {
        if (!holds) {
            wrong++;
            System.out.println("rule " + rule + ": " + what);
        }
    }

    private static String signature(Method m) {
        StringBuilder b = new StringBuilder(m.getName()).append('(');
        for (Class<?> type : m.getParameterTypes()) {
            b.append(type.descriptorString());
        }
        return b.append(')').append(m.getReturnType().descriptorString()).toString();
    }

    private static void face() {
        Set<String> due = new HashSet<>(List.of(FACE.split(" ")));
        Set<String> publicNames = new HashSet<>();
        for (Method m : TwoWayWall.class.getDeclaredMethods()) {
            if (Modifier.isPublic(m.getModifiers())) {
                check(1, "not in the document: " + signature(m), due.remove(signature(m)));
                publicNames.add(m.getName());
            } else {
                check(1, "not private: " + m, Modifier.isPrivate(m.getModifiers()));
            }
        }
        check(1, "missing: " + due, due.isEmpty());
        for (Constructor<?> c : TwoWayWall.class.getDeclaredConstructors()) {
            check(1, "constructor " + c, Modifier.isPublic(c.getModifiers()) && c.getParameterCount() == 0);
        }
        for (Field f : TwoWayWall.class.getDeclaredFields()) {
            check(1, "field " + f, Modifier.isPrivate(f.getModifiers()) || f.getName().equals("NONE"));
        }
        insides(publicNames);
    }

    private static void insides(Set<String> publicNames) {
        List<Class<?>> all = new ArrayList<>(List.of(TwoWayWall.class.getDeclaredClasses()));
        check(11, "too many classes", all.size() <= 12);
        all.add(TwoWayWall.class);
        for (Class<?> c : all) {
            check(2, "not static: " + c, c == TwoWayWall.class || Modifier.isStatic(c.getModifiers()));
            int fields = 0;
            for (Field f : c.getDeclaredFields()) {
                boolean still = Modifier.isStatic(f.getModifiers());
                check(5, "not final: " + f, !still || Modifier.isFinal(f.getModifiers()));
                fields += still ? 0 : 1;
            }
            check(11, "too many fields in " + c, fields <= 20);
            for (Method m : c.getDeclaredMethods()) {
                boolean inside = !Modifier.isPublic(m.getModifiers());
                check(1, "named like a public one: " + m, !inside || !publicNames.contains(m.getName()));
                check(11, "too many parameters: " + m, m.getParameterCount() <= 7);
            }
        }
    }

    private static void text() throws IOException {
        String source = Files.readString(Path.of("src/main/java/TwoWayWall.java"));
        String code = source.replaceAll("(?s)/\\*.*?\\*/", "").replaceAll("//[^\n]*", "");
        String[] never = {"throw", "throws", "try", "catch", "finally", "synchronized", "assert", "package", "protected",
            "System\\.(?!arraycopy)", "->", "::", "@", "\\w+Exact"};
        for (String word : never) {
            String edge = Character.isLetter(word.charAt(0)) ? "\\b" : "";
            Matcher m = Pattern.compile(edge + word + (word.endsWith(")") ? "" : edge)).matcher(code);
            check(6, "never " + word, !m.find());
        }
        Matcher imports = Pattern.compile("import ([^;]*);").matcher(code);
        while (imports.find()) {
            check(4, "import " + imports.group(1), imports.group(1).equals("java.util.Arrays"));
        }
        check(3, "signs beyond 127", source.chars().allMatch(c -> c < 128));
        methodLengths(source.split("\n"));
    }

    private static void methodLengths(String[] lines) {
        int start = -1;
        for (int i = 0; i < lines.length; i++) {
            if (lines[i].matches("( {4}| {8})\\w.*\\) \\{")) {
                start = i;
            }
            if (start >= 0 && lines[i].matches("( {4}| {8})\\}")) {
                check(11, "a method of " + (i - start) + " lines: " + lines[start], i - start <= 60);
                start = -1;
            }
        }
    }

    public static void main(String[] args) throws IOException {
        face();
        text();
        System.out.println(wrong + " rules broken");
        if (wrong != 0) {
            System.exit(1);
        }
    }
}
