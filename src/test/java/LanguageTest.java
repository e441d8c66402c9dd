import java.io.IOException;
import java.lang.reflect.Field;
import java.lang.reflect.Member;
import java.lang.reflect.Method;
import java.lang.reflect.Modifier;
import java.nio.file.Files;
import java.nio.file.Path;
import java.util.Set;
import java.util.TreeSet;
import java.util.regex.Matcher;
import java.util.regex.Pattern;

/** The face is just the document's, and the source keeps to what of ../shared/LANGUAGE.md can be seen by patterns. */
public final class LanguageTest {
    private static final String[] RULED_OUT = {
        "throw", "try", "catch", "finally", "synchronized", "assert", "goto", "Object", "Exact", "Random", "System\\.(?!arraycopy)",
        "Thread", "Scanner", "HashMap", "->", "::", "double", "float", "protected", "package"};

    private LanguageTest() {
    }

    public static void main(String[] args) throws IOException, ReflectiveOperationException {
        face(Files.readString(Path.of("../shared/DOC.md")));
        constants();
        innerClasses();
        source(Files.readString(Path.of("src/main/java/LullabyHouse.java")));
        Check.end();
    }

    /** The methods that the document's face tells, in the form of told(). */
    private static Set<String> faceOf(String document) {
        Set<String> face = new TreeSet<>();
        Matcher row = Pattern.compile("(?m)^    public (int|long|boolean) (\\w+)\\(([\\w, ]*)\\);$").matcher(document);
        while (row.find()) {
            face.add(row.group(1) + " " + row.group(2) + "(" + row.group(3).replaceAll(" \\w+(,|$)", "$1").replace(",", "") + ")");
        }
        return face;
    }

    private static void face(String document) {
        Set<String> want = faceOf(document);
        Check.due("the document's face was read", want.size(), 36);
        Set<String> got = new TreeSet<>();
        Set<String> names = new TreeSet<>();
        for (Method method : LullabyHouse.class.getDeclaredMethods()) {
            if (Modifier.isPublic(method.getModifiers())) {
                got.add(told(method));
                names.add(method.getName());
            }
        }
        Check.due("the face " + got, got.equals(want), true);
        for (Method method : LullabyHouse.class.getDeclaredMethods()) {
            if (!Modifier.isPublic(method.getModifiers())) {
                mustBePrivate(method);
                Check.due("a private " + method.getName(), names.contains(method.getName()), false);
            }
        }
        for (Field field : LullabyHouse.class.getDeclaredFields()) {
            if (!field.getName().equals("NONE")) {
                mustBePrivate(field);
            }
        }
        for (Class<?> one : LullabyHouse.class.getDeclaredClasses()) {
            for (Method method : one.getDeclaredMethods()) {
                Check.due("rule 1, a " + method.getName() + " in " + one, names.contains(method.getName()), false);
            }
        }
        Check.due("constructors", LullabyHouse.class.getConstructors().length, 1);
        Check.due("final", Modifier.isFinal(LullabyHouse.class.getModifiers()), true);
    }

    // "The constants: `NONE = -1`"; rule 5: static fields are final, arrays of them hold numbers
    private static void constants() throws ReflectiveOperationException {
        Field none = LullabyHouse.class.getField("NONE");
        Check.due("NONE is an int", none.getType() == int.class, true);
        Check.due("NONE", none.getInt(null), -1);
        mustHaveNoState(LullabyHouse.class);
        for (Class<?> one : LullabyHouse.class.getDeclaredClasses()) {
            mustHaveNoState(one);
        }
    }

    private static void mustHaveNoState(Class<?> one) {
        Set<Class<?>> types = Set.of(int.class, long.class, boolean.class, char.class, String.class, int[].class);
        for (Field field : one.getDeclaredFields()) {
            if (Modifier.isStatic(field.getModifiers()) && !field.isSynthetic()) {
                Check.due(field + " is final", Modifier.isFinal(field.getModifiers()), true);
                Check.due(field + " is a constant", types.contains(field.getType()), true);
            }
        }
    }

    private static String told(Method method) {
        StringBuilder text = new StringBuilder(method.getReturnType().getName() + " " + method.getName() + "(");
        for (Class<?> type : method.getParameterTypes()) {
            text.append(text.charAt(text.length() - 1) == '(' ? "" : " ").append(type.getName());
        }
        return text.append(")").toString();
    }

    private static void mustBePrivate(Member member) {
        Check.due(member.getName() + " is private", Modifier.isPrivate(member.getModifiers()) || member.isSynthetic(), true);
    }

    private static void innerClasses() {
        Class<?>[] inner = LullabyHouse.class.getDeclaredClasses();
        Check.due("at most twelve classes", inner.length + 1 <= 12, true);
        for (Class<?> one : inner) {
            Check.due(one + " is static", Modifier.isStatic(one.getModifiers()), true);
            int fields = 0;
            for (Field field : one.getDeclaredFields()) {
                fields += Modifier.isStatic(field.getModifiers()) ? 0 : 1;
            }
            Check.due(one + " has at most twenty fields, " + fields, fields <= 20, true);
            for (Method method : one.getDeclaredMethods()) {
                Check.due(method + " has at most seven parameters", method.getParameterCount() <= 7, true);
            }
        }
    }

    private static void source(String text) {
        String code = text.replaceAll("(?s)/\\*.*?\\*/", "").replaceAll("//[^\n]*", "");
        for (String word : RULED_OUT) {
            boolean letters = Character.isLetter(word.charAt(0)) && Character.isLetter(word.charAt(word.length() - 1));
            Matcher found = Pattern.compile(letters ? "\\b" + word + "\\b" : word).matcher(code);
            Check.due("the source has '" + word + "'", found.find(), false);
        }
        Check.due("signs are 1 to 127", text.chars().allMatch(sign -> sign < 128), true);
        made(code);
        Check.due("one import", code.split("\nimport ", -1).length - 1 + (code.startsWith("import ") ? 1 : 0), 1);
        int length = 0;
        for (String line : code.split("\n")) {
            boolean begins = line.matches("^(    |        )(public |private |static |final )*[\\w\\[\\]]+ \\w+\\(.*\\{$");
            length = begins ? 0 : length + 1;
            if (line.matches("^(    |        )\\}$")) {
                Check.due("a method of " + length + " lines before " + line, length <= 60, true);
                length = 0;
            }
        }
    }

    /** What is made is made with the object: as a field's first value, or in the one constructor that has lines. */
    private static void made(String code) {
        for (String line : code.split("\n")) {
            boolean field = line.matches("^(    |        )(private )?(final )?\\w+(\\[\\])? \\w+ = .*;$");
            boolean constructor = line.matches("^            this\\.\\w+ = new int\\[this\\.most\\];$");
            Check.due("it is made with the object: " + line, !line.contains("new ") || field || constructor, true);
        }
    }
}
