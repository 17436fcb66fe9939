import java.lang.reflect.Constructor;
import java.lang.reflect.Field;
import java.lang.reflect.Method;
import java.lang.reflect.Modifier;
import java.nio.file.Files;
import java.nio.file.Paths;
import java.util.Arrays;
import java.util.Set;
import java.util.TreeSet;
import java.util.regex.Matcher;
import java.util.regex.Pattern;

/** The face of the document, and the rules of LANGUAGE.md that can be seen in the source or the class. */
public final class RulesTest {
    private static final Check check = new Check("RulesTest");

    public static void main(String[] args) throws Exception {
        face();
        for (Class<?> inside : PumpTalk.class.getDeclaredClasses()) {
            inside(inside);
        }
        fields(PumpTalk.class);
        source();
        check.end();
    }

    private static Set<String> documented() throws Exception {
        String doc = Files.readString(Paths.get("../shared/DOC.md"));
        String block = doc.substring(doc.indexOf("public final class PumpTalk"));
        block = block.substring(0, block.indexOf("```"));
        Set<String> face = new TreeSet<>();
        Matcher m = Pattern.compile("public (int|long) (\\w+)\\(([^)]*)\\);").matcher(block);
        while (m.find()) {
            int takes = m.group(3).isEmpty() ? 0 : m.group(3).split(",").length;
            face.add(m.group(1) + " " + m.group(2) + " " + takes);
        }
        return face;
    }

    private static void face() throws Exception {
        check.due("public and final", PumpTalk.class.getModifiers() & (Modifier.PUBLIC | Modifier.FINAL),
                Modifier.PUBLIC | Modifier.FINAL);
        Set<String> face = new TreeSet<>();
        for (Method m : PumpTalk.class.getDeclaredMethods()) {
            if (Modifier.isPublic(m.getModifiers())) {
                check.due(m + " takes ints", Arrays.stream(m.getParameterTypes()).allMatch(t -> t == int.class) ? 1 : 0, 1);
                face.add(m.getReturnType() + " " + m.getName() + " " + m.getParameterCount());
            } else {
                check.due(m + " is private", Modifier.isPrivate(m.getModifiers()) ? 1 : 0, 1);
            }
        }
        check.due("as many as documented, 45", face.size(), 45);
        check.due("the face is " + face, face.equals(documented()) ? 1 : 0, 1);
        for (Constructor<?> c : PumpTalk.class.getDeclaredConstructors()) {
            check.due("one constructor, without arguments", c.getParameterCount(), 0);
        }
        for (Field f : PumpTalk.class.getDeclaredFields()) {
            check.due(f + " is private", Modifier.isPrivate(f.getModifiers()) ? 1 : 0, 1);
        }
    }

    private static void inside(Class<?> inside) throws Exception {
        int m = inside.getModifiers();
        check.due(inside + " is static", Modifier.isStatic(m) ? 1 : 0, 1);
        check.due(inside + " isn't public", m & (Modifier.PUBLIC | Modifier.PROTECTED), 0);
        Set<String> names = new TreeSet<>();
        for (String row : documented()) {
            names.add(row.split(" ")[1]);
        }
        for (Method method : inside.getDeclaredMethods()) {
            check.due(method + " bears a name of the face", names.contains(method.getName()) ? 1 : 0, 0);
            check.due(method + " takes seven at most", method.getParameterCount() > 7 ? 1 : 0, 0);
        }
        fields(inside);
    }

    private static void fields(Class<?> c) {
        int changing = 0;
        for (Field f : c.getDeclaredFields()) {
            if (Modifier.isStatic(f.getModifiers())) {
                check.due(f + " is final", Modifier.isFinal(f.getModifiers()) ? 1 : 0, 1);
            } else {
                changing++;
            }
        }
        check.due(c + " has some twenty fields at most", changing > 20 ? 1 : 0, 0);
    }

    private static void source() throws Exception {
        String source = Files.readString(Paths.get("src/main/java/PumpTalk.java"));
        for (int i = 0; i < source.length(); i++) {
            if (source.charAt(i) > 127) {
                check.due("a sign above 127 at " + i, source.charAt(i), 0);
            }
        }
        String code = source.replaceAll("(?s)/\\*.*?\\*/", " ").replaceAll("//[^\n]*", " ");
        String[] words = {"throw", "try", "catch", "synchronized", "assert", "package", "import", "protected",
            "Exception", "Object", "hashCode", "toString", "Random", "Thread", "volatile", "transient", "native",
            "double", "float", "var"};
        for (String word : words) {
            check.due("the word " + word, Pattern.compile("\\b" + word + "\\b").matcher(code).find() ? 1 : 0, 0);
        }
        check.due("lambdas, arrows", code.contains("->") ? 1 : 0, 0);
        check.due("method references", code.contains("::") ? 1 : 0, 0);
        check.due("static blocks", Pattern.compile("static\\s*\\{").matcher(code).find() ? 1 : 0, 0);
        Matcher library = Pattern.compile("\\b(System|Math|Integer|Long|Arrays)\\.(\\w+)").matcher(code);
        Set<String> allowed = new TreeSet<>(Arrays.asList("arraycopy", "min", "max", "abs", "bitCount"));
        while (library.find()) {
            check.due(library.group(), allowed.contains(library.group(2)) ? 1 : 0, 1);
        }
        methodLengths(source);
    }

    private static void methodLengths(String source) {
        String[] lines = source.split("\n");
        for (int i = 0; i < lines.length; i++) {
            if (lines[i].matches(" +(public |private |static |final )*\\w+(\\[\\])? \\w+\\(.*\\{")) {
                String close = lines[i].replaceAll("\\S.*", "}");
                int end = i;
                while (end < lines.length && !lines[end].equals(close)) {
                    end++;
                }
                check.due(lines[i].trim() + " is longer than sixty lines", end - i > 60 ? 1 : 0, 0);
            }
        }
    }
}
