import java.lang.reflect.Constructor;
import java.lang.reflect.Field;
import java.lang.reflect.Member;
import java.lang.reflect.Method;
import java.lang.reflect.Modifier;
import java.nio.charset.StandardCharsets;
import java.nio.file.Files;
import java.nio.file.Path;
import java.util.Arrays;
import java.util.Set;
import java.util.TreeSet;
import java.util.regex.Matcher;
import java.util.regex.Pattern;

/** The face of the class, and those rules of LANGUAGE.md that the compiled class and the words of its source can show. */
public final class RulesTest {
    private static final Check CHECK = new Check();
    private static final Set<String> FACE = new TreeSet<>(Arrays.asList(
            "feed int long", "court", "laws", "fault", "told int", "suit int int", "witness int int", "weight int int",
            "say int", "strike int boolean", "dusk int", "drift int int", "begin", "most int int", "soonest int",
            "plan int", "cut int", "turns int int", "many int", "write int int", "tear int", "judge int",
            "evening int int", "seed int", "keep int", "goBack int"));
    private static final String[] FORBIDDEN = {"throw", "throws", "try", "catch", "finally", "synchronized", "assert",
            "package", "protected", "native", "Object", "Thread", "Random", "System.out", "System.nanoTime"};
    private static final Set<String> IMPORTS = Set.of("java.util.Arrays", "java.util.ArrayList", "java.util.List", "java.util.Iterator");

    public static void main(String[] args) throws Exception {
        face();
        membersAreClosed(HalvedProof.class);
        Set<String> names = new TreeSet<>();
        FACE.forEach(f -> names.add(f.split(" ")[0]));
        for (Class<?> inner : HalvedProof.class.getDeclaredClasses()) {
            CHECK.isTrue(inner + " is static", Modifier.isStatic(inner.getModifiers()));
            CHECK.isTrue(inner + " is not public", !Modifier.isPublic(inner.getModifiers()));
            for (Method m : inner.getDeclaredMethods()) {
                CHECK.isTrue(m + " has a name of its own", !names.contains(m.getName()));
                CHECK.isTrue(m + " takes seven at most", m.getParameterCount() <= 7);
            }
            membersAreClosed(inner);
        }
        CHECK.isTrue("twelve classes at most", HalvedProof.class.getDeclaredClasses().length <= 12);
        words();
        CHECK.end();
    }

    private static void face() {
        Class<?> c = HalvedProof.class;
        CHECK.isTrue("public and final", Modifier.isPublic(c.getModifiers()) && Modifier.isFinal(c.getModifiers()));
        Set<String> found = new TreeSet<>();
        for (Method m : c.getDeclaredMethods()) {
            StringBuilder b = new StringBuilder(m.getName());
            for (Class<?> p : m.getParameterTypes()) {
                b.append(' ').append(p.getName());
            }
            if (Modifier.isPrivate(m.getModifiers())) {
                CHECK.isTrue(m + " has a name of its own", FACE.stream().noneMatch(f -> f.split(" ")[0].equals(m.getName())));
            } else {
                CHECK.isTrue(m + " answers an int", m.getReturnType() == int.class && Modifier.isPublic(m.getModifiers()));
                found.add(b.toString());
            }
        }
        CHECK.isTrue("the methods are " + found, found.equals(FACE));
        Constructor<?>[] made = c.getDeclaredConstructors();
        CHECK.isTrue("one constructor", made.length == 1 && made[0].getParameterCount() == 0
                && Modifier.isPublic(made[0].getModifiers()));
        int constants = 0;
        for (Field f : c.getDeclaredFields()) {
            if (!Modifier.isPrivate(f.getModifiers())) {
                constants++;
                CHECK.isTrue(f + " is a public constant", isConstant(f) && Modifier.isPublic(f.getModifiers()));
            }
        }
        CHECK.due("constants", constants, 5);
        CHECK.due("NONE", HalvedProof.NONE, -1);
        CHECK.due("UNKNOWN", HalvedProof.UNKNOWN, -1000000001);
        CHECK.due("OUTSIDE", HalvedProof.OUTSIDE, -1000000002);
        CHECK.due("NOT", HalvedProof.NOT, -1000000003);
        CHECK.due("FULL", HalvedProof.FULL, -1000000004);
    }

    private static boolean isConstant(Member f) {
        return Modifier.isStatic(f.getModifiers()) && Modifier.isFinal(f.getModifiers());
    }

    private static void membersAreClosed(Class<?> c) {
        int fields = 0;
        for (Field f : c.getDeclaredFields()) {
            CHECK.isTrue(f + " is no static state", isConstant(f) || !Modifier.isStatic(f.getModifiers()));
            fields += isConstant(f) ? 0 : 1;
        }
        CHECK.isTrue(c + " has twenty fields at most", fields <= 20);
    }

    private static void words() throws Exception {
        String source = Files.readString(Path.of("src/main/java/HalvedProof.java"), StandardCharsets.UTF_8);
        CHECK.isTrue("signs 1 to 127 alone", source.chars().allMatch(c -> c < 128));
        String code = source.replaceAll("(?s)/\\*.*?\\*/", "").replaceAll("//[^\n]*", "").replaceAll("\"[^\"\n]*\"", "TEXT");
        for (String word : FORBIDDEN) {
            CHECK.isTrue("no " + word, !Pattern.compile("\\b" + Pattern.quote(word) + "\\b").matcher(code).find());
        }
        String cases = code.replaceAll("\\b(case [^:;{}]*|default *)->", "");
        CHECK.isTrue("no lambda, no method reference", !cases.contains("->") && !cases.contains("::"));
        CHECK.isTrue("no texts joined by +", !Pattern.compile("TEXT\\s*\\+|\\+\\s*TEXT").matcher(code).find());
        Matcher imports = Pattern.compile("import ([^;]*);").matcher(code);
        while (imports.find()) {
            CHECK.isTrue("import " + imports.group(1), IMPORTS.contains(imports.group(1)));
        }
        Matcher calls = Pattern.compile("\\b(Arrays|System)\\.(\\w+)").matcher(code);
        Set<String> allowed = Set.of("Arrays.fill", "Arrays.copyOf", "Arrays.copyOfRange", "System.arraycopy");
        while (calls.find()) {
            CHECK.isTrue(calls.group(), allowed.contains(calls.group()));
        }
        CHECK.isTrue("nothing of the name ..Exact", !Pattern.compile("\\b(Math|Integer|Long)\\.\\w+Exact\\b").matcher(code).find());
    }
}
