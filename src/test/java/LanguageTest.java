import java.io.IOException;
import java.lang.reflect.Constructor;
import java.lang.reflect.Field;
import java.lang.reflect.Method;
import java.lang.reflect.Modifier;
import java.nio.charset.StandardCharsets;
import java.nio.file.Files;
import java.nio.file.Path;
import java.util.ArrayList;
import java.util.Arrays;
import java.util.List;
import java.util.TreeSet;
import java.util.regex.Matcher;
import java.util.regex.Pattern;

/** The face of the document, and those rules of LANGUAGE.md that can be looked for in the source. */
public final class LanguageTest {
    private static final Check CHECK = new Check("LanguageTest");
    private static final String[] FACE = {
        "int feed(int,int,int,int,int)", "int back(int)", "int read()", "int place()",
        "boolean put(int,int,int,int)", "boolean take(int)", "boolean swap(int)", "int become(int)",
        "boolean undo()", "int gate(int,int)", "int made(int,int)", "int undone(int)",
        "int order(int)", "int agree(int,int)", "int shrunk(int,int)", "int found(boolean,int,int)",
        "int least(int,int)", "int stuck(int,int,boolean)", "int terms(int)", "int idle(int)",
        "int test(int)", "int like(int)", "int table(int)", "int laid(int)", "int off(int)",
        "boolean hold(int)", "boolean restore(int)", "int count(int)"
    };
    private static final String[] FORBIDDEN = {
        "\\bthrow\\b", "\\bthrows\\b", "\\btry\\b", "\\bcatch\\b", "\\bfinally\\b",
        "\\bsynchronized\\b", "\\bassert\\b", "\\bvolatile\\b", "\\bnative\\b", "->", "::", "@",
        "Exact\\b", "\\bimport\\b", "\\bpackage\\b", "\\bThread\\b", "\\bClass\\b", "\\bObject\\b",
        "System\\.(?!arraycopy\\b)", "\\bRandom\\b", "\\bjava\\.", "\\bprotected\\b", "\\bvar\\b",
        "\\bstatic\\s*\\{", "while \\(true\\)", "for \\(;;"
    };

    public static void main(String[] args) throws IOException {
        face();
        String source = Files.readString(
            Path.of("src/main/java/BackLogic.java"), StandardCharsets.US_ASCII);
        String code = withoutTexts(source);
        for (String word : FORBIDDEN) {
            CHECK.due("places of " + word, places(code, word), 0);
        }
        CHECK.due("more than twelve classes", places(code, "\\b(class|enum|record|interface)\\b") > 12, false);
        methods(code);
        CHECK.end();
    }

    private static String signature(Method method) {
        List<String> types = new ArrayList<>();
        for (Class<?> type : method.getParameterTypes()) {
            types.add(type.getName());
        }
        return method.getReturnType().getName() + " " + method.getName() + "(" + String.join(",", types) + ")";
    }

    private static void face() {
        Class<?> type = BackLogic.class;
        CHECK.due("public and final", type.getModifiers(), Modifier.PUBLIC | Modifier.FINAL);
        TreeSet<String> publicOnes = new TreeSet<>();
        TreeSet<String> names = new TreeSet<>();
        for (Method method : type.getDeclaredMethods()) {
            if (Modifier.isPublic(method.getModifiers())) {
                publicOnes.add(signature(method));
                names.add(method.getName());
            }
        }
        CHECK.due("the face's methods " + publicOnes,
            publicOnes.equals(new TreeSet<>(Arrays.asList(FACE))), true);
        for (Method method : type.getDeclaredMethods()) {
            boolean isPublic = Modifier.isPublic(method.getModifiers());
            boolean isPrivate = Modifier.isPrivate(method.getModifiers());
            CHECK.due("public or private: " + method, isPublic || isPrivate, true);
            CHECK.due("a name of its own: " + method, isPrivate && names.contains(method.getName()), false);
        }
        Constructor<?>[] constructors = type.getDeclaredConstructors();
        CHECK.due("constructors", constructors.length, 1);
        CHECK.due("public constructor", Modifier.isPublic(constructors[0].getModifiers()), true);
        for (Field field : type.getDeclaredFields()) {
            boolean isNone = field.getName().equals("NONE");
            CHECK.due("field " + field, Modifier.isPrivate(field.getModifiers()), !isNone);
            staticIsFinal(field);
        }
        for (Class<?> inside : type.getDeclaredClasses()) {
            CHECK.due("static " + inside, Modifier.isStatic(inside.getModifiers()), true);
            CHECK.due("not public " + inside, Modifier.isPublic(inside.getModifiers()), false);
            int fields = 0;
            for (Field field : inside.getDeclaredFields()) {
                staticIsFinal(field);
                fields += Modifier.isStatic(field.getModifiers()) ? 0 : 1;
            }
            CHECK.due("many fields in " + inside, fields > 20, false);
            for (Method method : inside.getDeclaredMethods()) {
                CHECK.due("a name of its own: " + method, names.contains(method.getName()), false);
            }
        }
    }

    private static void staticIsFinal(Field field) {
        boolean isStatic = Modifier.isStatic(field.getModifiers());
        CHECK.due("static and not final: " + field, isStatic && !Modifier.isFinal(field.getModifiers()), false);
    }

    private static String withoutTexts(String source) {
        return source.replaceAll("(?s)/\\*.*?\\*/", "").replaceAll("//[^\n]*", "")
            .replaceAll("\"[^\"\n]*\"", "\"\"").replaceAll("'.'", "' '");
    }

    private static int places(String code, String word) {
        Matcher matcher = Pattern.compile(word).matcher(code);
        int count = 0;
        while (matcher.find()) {
            count++;
        }
        return count;
    }

    private static void methods(String code) {
        Matcher heads = Pattern.compile("(?m)^( ++)(?:[\\w\\[\\]]+ )*(\\w+)\\(([^)]*)\\) \\{\n").matcher(code);
        int found = 0;
        while (heads.find()) {
            found++;
            int end = code.indexOf("\n" + heads.group(1) + "}", heads.start());
            long lines = code.substring(heads.start(), end).lines().count() + 1;
            CHECK.due("long method " + heads.group(2) + " of " + lines, lines > 60, false);
            int parameters = heads.group(3).isEmpty() ? 0 : heads.group(3).split(",").length;
            CHECK.due("parameters of " + heads.group(2), parameters > 7, false);
        }
        CHECK.due("methods were looked at", found > 100, true);
    }
}
