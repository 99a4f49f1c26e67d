import java.lang.reflect.Constructor;
import java.lang.reflect.Field;
import java.lang.reflect.Method;
import java.lang.reflect.Modifier;
import java.nio.charset.StandardCharsets;
import java.nio.file.Files;
import java.nio.file.Path;
import java.util.Map;
import java.util.TreeMap;
import java.util.TreeSet;

/** The public face of the document, and those rules of ../shared/LANGUAGE.md that a program can look at. */
public final class FaceTest {
    private static final Due due = new Due();
    private static final String SOURCE = "src/main/java/HeronFord.java";
    /** Each method and how many parameters it takes. */
    private static final String FACE = "ford 4, ofFish 2, dear 1, scales 2, hear 1, passes 5, owes 6, toll 5, least 2, payments 4, "
        + "wants 5, reading 2, back 1, had 5, dears 4, kinds 5, odds 5, sheet 3, lose 1, put 3, cell 3, copy 5, tell 1, let 1, "
        + "as 2, trace 0, fault 0, many 1";

    public static void main(String[] args) throws Exception {
        Map<String, Integer> face = new TreeMap<>();
        for (String method : FACE.split(", ")) {
            face.put(method.split(" ")[0], Integer.parseInt(method.split(" ")[1]));
        }
        methods(face);
        constants();
        classes(face);
        text();
        due.end();
    }

    private static void methods(Map<String, Integer> face) {
        Map<String, Integer> found = new TreeMap<>();
        for (Method method : HeronFord.class.getDeclaredMethods()) {
            if (!Modifier.isPrivate(method.getModifiers())) {
                found.put(method.getName(), method.getParameterCount());
                boolean isLong = method.getName().equals("odds") || method.getName().equals("cell");
                due.is(method + " is as told", method.getReturnType() == (isLong ? long.class : int.class) ? 1 : 0, 1);
                due.is(method + " is public and no more", method.getModifiers(), Modifier.PUBLIC);
            } else {
                due.is(method + " bears no public name", face.containsKey(method.getName()) ? 1 : 0, 0);
            }
        }
        due.is("the methods are " + found, found.equals(face) ? 1 : 0, 1);
        Constructor<?>[] constructors = HeronFord.class.getDeclaredConstructors();
        due.is("constructors", constructors.length, 1);
        due.is("the constructor", constructors[0].getParameterCount(), 0);
        due.is("the class", HeronFord.class.getModifiers(), Modifier.PUBLIC | Modifier.FINAL);
    }

    private static void constants() throws Exception {
        int isPublic = 0;
        for (Field field : HeronFord.class.getDeclaredFields()) {
            isPublic += Modifier.isPrivate(field.getModifiers()) ? 0 : 1;
        }
        due.is("public constants", isPublic, 6);
        due.is("UNKNOWN", HeronFord.UNKNOWN, -1);
        due.is("OUTSIDE", HeronFord.OUTSIDE, -2);
        due.is("STATE", HeronFord.STATE, -3);
        due.is("FULL", HeronFord.FULL, -4);
        due.is("NONE", HeronFord.NONE, -9);
        due.is("LOST", HeronFord.LOST, Long.MIN_VALUE);
    }

    private static void classes(Map<String, Integer> face) {
        Class<?>[] inside = HeronFord.class.getDeclaredClasses();
        due.is("some twelve classes", inside.length <= 11 ? 1 : 0, 1);
        for (Class<?> each : inside) {
            due.is(each + " is static", Modifier.isStatic(each.getModifiers()) ? 1 : 0, 1);
            due.is(each + " has some twenty fields", each.getDeclaredFields().length <= 20 ? 1 : 0, 1);
            for (Method method : each.getDeclaredMethods()) {
                due.is(method + " bears no public name", face.containsKey(method.getName()) ? 1 : 0, 0);
                due.is(method + " takes seven at most", method.getParameterCount() <= 7 ? 1 : 0, 1);
            }
        }
    }

    private static void text() throws Exception {
        String source = new String(Files.readAllBytes(Path.of(SOURCE)), StandardCharsets.ISO_8859_1);
        String code = source.replaceAll("(?s)/\\*.*?\\*/", " ").replaceAll("//[^\n]*", " ");
        for (String sign : new String[] {"->", "::", "[^\\x01-\\x7f]", "\\bpackage\\b"}) {
            due.is("there is no " + sign, code.split(sign).length, 1);
        }
        for (String word : "throw throws try catch synchronized assert double float Exact".split(" ")) {
            due.is("there is no " + word, code.split("\\b" + word + "\\b").length, 1);
        }
        TreeSet<String> imports = new TreeSet<>();
        for (String line : code.split("\n")) {
            if (line.startsWith("import ")) {
                imports.add(line.trim());
            }
        }
        due.is("imports are " + imports, imports.toString().equals("[import java.util.Arrays;]") ? 1 : 0, 1);
    }
}
