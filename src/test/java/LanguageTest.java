import java.io.IOException;
import java.lang.reflect.Constructor;
import java.lang.reflect.Field;
import java.lang.reflect.Method;
import java.lang.reflect.Modifier;
import java.nio.charset.StandardCharsets;
import java.nio.file.Files;
import java.nio.file.Path;
import java.util.Arrays;
import java.util.HashSet;
import java.util.List;
import java.util.Set;
import java.util.TreeSet;
import java.util.regex.Matcher;
import java.util.regex.Pattern;

/** What of LANGUAGE.md can be seen from outside or from the words of the source. */
public final class LanguageTest {
    private static final Set<String> FACE = new TreeSet<>(Arrays.asList(
        "int feed(int,int,int,int,int)", "boolean end(int)", "int town()", "int fault(int)", "int has(int)",
        "int letter(int,int,int)", "int lot(int,int)", "int gap(int,int)", "int person(int,int)", "int purse(int)",
        "int toll(int,int)", "int step(int,int,int)", "int way(int,int)", "int leave(int,int)", "int go(int)",
        "int night()", "boolean patch(int,int)", "int snow(int)", "int fire(int,int)", "boolean undo()",
        "boolean seed(int)", "int led(int,int)", "int burns(int,int)", "int stopped(int,int)", "int opened(int,int)",
        "int broke(int,int,int)", "int worth(int,int)", "int reach(int)", "int leaks()", "int image()",
        "int octet(int)", "boolean on()"));
    private static final int MOST_LINES = 60;
    private static Check check;

    public static void main(String[] args) throws IOException {
        check = new Check("LanguageTest");
        face();
        nested();
        words();
        check.close();
    }

    private static boolean hidden(int modifiers) {
        return Modifier.isPrivate(modifiers);
    }

    private static void none(String what, boolean found) {
        check.due(what, found, false);
    }

    private static String signature(Method m) {
        StringBuilder s = new StringBuilder(m.getReturnType() + " " + m.getName() + "(");
        for (Class<?> type : m.getParameterTypes()) {
            s.append(s.charAt(s.length() - 1) == '(' ? "" : ",").append(type.getSimpleName());
        }
        return s.append(")").toString();
    }

    private static Set<String> faceNames() {
        Set<String> names = new HashSet<>();
        for (String one : FACE) {
            names.add(one.substring(one.indexOf(' ') + 1, one.indexOf('(')));
        }
        return names;
    }

    private static void face() {
        Class<?> it = TileHeel.class;
        check.due("public and final", it.getModifiers(), Modifier.PUBLIC | Modifier.FINAL);
        Set<String> found = new TreeSet<>();
        for (Method m : it.getDeclaredMethods()) {
            if (!hidden(m.getModifiers())) {
                found.add(signature(m));
                check.due("just public: " + m, m.getModifiers(), Modifier.PUBLIC);
            } else {
                none("a private method's public name: " + m, faceNames().contains(m.getName()));
            }
            none("more than seven parameters: " + m, m.getParameterCount() > 7);
        }
        none("another face: " + found, !found.equals(FACE));
        for (Constructor<?> c : it.getDeclaredConstructors()) {
            none("another constructor: " + c, c.getParameterCount() != 0 || !Modifier.isPublic(c.getModifiers()));
        }
        for (Field f : it.getDeclaredFields()) {
            boolean told = List.of("NONE", "NOTHING").contains(f.getName());
            none("a field that can be seen: " + f, !told && !hidden(f.getModifiers()));
            none("static, not final: " + f, Modifier.isStatic(f.getModifiers()) && !Modifier.isFinal(f.getModifiers()));
        }
    }

    private static void nested() {
        Class<?>[] inside = TileHeel.class.getDeclaredClasses();
        none("too many classes", inside.length + 1 > 12);
        for (Class<?> one : inside) {
            none("not static: " + one, !Modifier.isStatic(one.getModifiers()));
            none("to be seen: " + one, !hidden(one.getModifiers()));
            int fields = 0;
            for (Field f : one.getDeclaredFields()) {
                fields += Modifier.isStatic(f.getModifiers()) ? 0 : 1;
            }
            none("too many fields: " + one, fields > 20);
            for (Method m : one.getDeclaredMethods()) {
                none("a public one's name: " + m, faceNames().contains(m.getName()));
                none("made by the compiler: " + m, m.isSynthetic());
                none("more than seven parameters: " + m, m.getParameterCount() > 7);
                none("equals, hashCode or toString: " + m,
                    List.of("equals", "hashCode", "toString").contains(m.getName()));
            }
        }
    }

    private static void words() throws IOException {
        String source = Files.readString(Path.of("src/main/java/TileHeel.java"), StandardCharsets.ISO_8859_1);
        for (char c : source.toCharArray()) {
            none("sign " + (int) c, c != '\n' && (c < ' ' || c > '~'));
        }
        String bare = source.replaceAll("(?s)/\\*.*?\\*/", "").replaceAll("//[^\n]*", "")
            .replaceAll("\"[^\"\n]*\"", "TEXT").replaceAll("'.'", "0");
        Matcher word = Pattern.compile("\\b(throw|throws|try|catch|finally|synchronized|assert|import|package|instanceof"
            + "|lambda|yield|var|System\\.(?!arraycopy)\\w*|Object|Thread|Exception\\w*|Random|Locale|goto|volatile|native"
            + "|transient|strictfp|interface|enum|record|abstract|extends|implements)\\b|->|::").matcher(bare);
        while (word.find()) {
            none("the word " + word.group(), true);
        }
        none("texts joined by +", Pattern.compile("TEXT\\s*\\+|\\+\\s*TEXT").matcher(bare).find());
        Matcher library = Pattern.compile("\\b(Math|Integer|Long|Arrays|System|String)\\.(\\w+)").matcher(bare);
        List<String> may = List.of("Math.min", "Math.max", "Math.floorDiv", "Integer.bitCount", "System.arraycopy");
        while (library.find()) {
            none("the library's " + library.group(), !may.contains(library.group()));
        }
        methodLengths(bare);
    }

    /** A method begins with a line that ends with ") {" and is indented by 4 or 8, behind no "if" or the like. */
    private static void methodLengths(String bare) {
        String[] lines = bare.split("\n");
        for (int k = 0; k < lines.length; k++) {
            Matcher head = Pattern.compile("^( {4}| {8})(?!if|for|while|switch|\\})(\\S.*)\\) \\{$").matcher(lines[k]);
            if (head.matches()) {
                int end = k;
                while (end < lines.length && !lines[end].equals(head.group(1) + "}")) {
                    end++;
                }
                none("long: " + head.group(2), end - k > MOST_LINES);
            }
        }
    }
}
