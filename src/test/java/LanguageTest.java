import java.io.IOException;
import java.lang.reflect.Field;
import java.lang.reflect.Member;
import java.lang.reflect.Method;
import java.lang.reflect.Modifier;
import java.nio.file.Files;
import java.nio.file.Path;
import java.util.Arrays;
import java.util.Set;
import java.util.TreeSet;
import java.util.regex.Matcher;
import java.util.regex.Pattern;

/** The face is just the document's, and the source keeps to what of ../shared/LANGUAGE.md can be seen by patterns. */
public final class LanguageTest {
    private static final String[] FACE = {
        "int feed(int int int int int)", "int end(int)", "int text(int int)", "int fault(int)", "int house(int int)",
        "int deed(int int int)", "int stop(int int)", "int state(int int int int)", "int rota(int int)",
        "int few(int boolean)", "int far(int boolean)", "long wakes(int boolean)", "int change(int)",
        "int tussle(int int boolean)", "int tunes(int int)", "int fact(int int int)", "int fits(int int int)",
        "int drawn(int int int int)", "int sung(int int boolean)", "int spare(int int)", "int ease(int int)",
        "int roof(int int)", "long sleep(int int boolean)", "long census(int int boolean)", "int move(int int int)",
        "int range(int int)", "int choir(int boolean)", "int after(int int int)", "long odds(int int int boolean)",
        "int hire(int)", "int shift(int int)", "int tuned(int)", "int landing(int boolean)", "int count(int)",
        "boolean image(int)", "boolean again(int)"};
    private static final String[] RULED_OUT = {
        "throw", "try", "catch", "finally", "synchronized", "assert", "goto", "Object", "Exact", "Random", "System\\.(?!arraycopy)",
        "Thread", "Scanner", "HashMap", "->", "::", "double", "float", "protected", "package"};

    private LanguageTest() {
    }

    public static void main(String[] args) throws IOException {
        face();
        innerClasses();
        source(Files.readString(Path.of("src/main/java/LullabyHouse.java")));
        Check.end();
    }

    private static void face() {
        Set<String> want = new TreeSet<>(Arrays.asList(FACE));
        Set<String> got = new TreeSet<>();
        Set<String> names = new TreeSet<>();
        for (Method method : LullabyHouse.class.getDeclaredMethods()) {
            if (Modifier.isPublic(method.getModifiers())) {
                got.add(told(method));
                names.add(method.getName());
            }
        }
        Check.due("the face " + got, got.equals(want), true);
        for (Method method : LullabyHouse.class.getDeclaredMethods()) {
            if (!Modifier.isPublic(method.getModifiers())) {
                mustBePrivate(method);
                Check.due("a private " + method.getName(), names.contains(method.getName()), false);
            }
        }
        for (Field field : LullabyHouse.class.getDeclaredFields()) {
            if (!field.getName().equals("NONE")) {
                mustBePrivate(field);
            }
        }
        Check.due("constructors", LullabyHouse.class.getConstructors().length, 1);
        Check.due("final", Modifier.isFinal(LullabyHouse.class.getModifiers()), true);
    }

    private static String told(Method method) {
        StringBuilder text = new StringBuilder(method.getReturnType().getName() + " " + method.getName() + "(");
        for (Class<?> type : method.getParameterTypes()) {
            text.append(text.charAt(text.length() - 1) == '(' ? "" : " ").append(type.getName());
        }
        return text.append(")").toString();
    }

    private static void mustBePrivate(Member member) {
        Check.due(member.getName() + " is private", Modifier.isPrivate(member.getModifiers()) || member.isSynthetic(), true);
    }

    private static void innerClasses() {
        Class<?>[] inner = LullabyHouse.class.getDeclaredClasses();
        Check.due("at most twelve classes", inner.length + 1 <= 12, true);
        for (Class<?> one : inner) {
            Check.due(one + " is static", Modifier.isStatic(one.getModifiers()), true);
            int fields = 0;
            for (Field field : one.getDeclaredFields()) {
                fields += Modifier.isStatic(field.getModifiers()) ? 0 : 1;
            }
            Check.due(one + " has at most twenty fields, " + fields, fields <= 20, true);
            for (Method method : one.getDeclaredMethods()) {
                Check.due(method + " has at most seven parameters", method.getParameterCount() <= 7, true);
            }
        }
    }

    private static void source(String text) {
        String code = text.replaceAll("(?s)/\\*.*?\\*/", "").replaceAll("//[^\n]*", "");
        for (String word : RULED_OUT) {
            boolean letters = Character.isLetter(word.charAt(0)) && Character.isLetter(word.charAt(word.length() - 1));
            Matcher found = Pattern.compile(letters ? "\\b" + word + "\\b" : word).matcher(code);
            Check.due("the source has '" + word + "'", found.find(), false);
        }
        Check.due("one import", code.split("\nimport ", -1).length - 1 + (code.startsWith("import ") ? 1 : 0), 1);
        int length = 0;
        for (String line : code.split("\n")) {
            boolean begins = line.matches("^(    |        )(public |private |static |final )*[\\w\\[\\]]+ \\w+\\(.*\\{$");
            length = begins ? 0 : length + 1;
            if (line.matches("^(    |        )\\}$")) {
                Check.due("a method of " + length + " lines before " + line, length <= 60, true);
                length = 0;
            }
        }
    }
}
