import java.io.IOException;
import java.lang.reflect.Constructor;
import java.lang.reflect.Field;
import java.lang.reflect.Method;
import java.lang.reflect.Modifier;
import java.nio.file.Files;
import java.nio.file.Path;
import java.util.ArrayList;
import java.util.List;
import java.util.Set;
import java.util.TreeSet;
import java.util.regex.Matcher;
import java.util.regex.Pattern;

/** The rules of ../shared/LANGUAGE.md that can be seen from the source and from the class. */
public final class LanguageTest {
    private static final String FACE = "ask(int) answer(int) at(int,int) back(int) best(int) bestLaw(int,int) chase(int,int)"
        + " cost(int,int) count(int) earns(int) edge(int) fault() feed(int,int,int,int,int) force(int) gap() image() judge()"
        + " law(int,int) look(int,int) lot(int,int,int) lots(int,int,int,int,int) mean(int) part(int,int) pays(int,int)"
        + " promise(int,boolean) rests(int) run(int,int,int) saves(int,int) sold(int) street(int) sure(int,int) told(int)"
        + " would(int)";

    private LanguageTest() {
    }

    public static void main(String[] args) throws IOException {
        String source = Files.readString(Path.of("src/main/java/LoafStreet.java"));
        String code = source.replaceAll("(?s)/\\*.*?\\*/", "").replaceAll("//[^\n]*", "").replaceAll("\"[^\"\n]*\"", "\"\"");
        words(code);
        face();
        names();
        sizes(code);
        Due.end("LanguageTest");
    }

    private static void words(String code) {
        for (String word : new String[] {"throw", "throws", "try", "catch", "finally", "synchronized", "assert", "package",
            "var", "protected", "volatile", "native", "Exact", "System.out", "double", "float"}) {
            Due.is("uses of " + word, Pattern.compile("\\b" + Pattern.quote(word) + "\\b").matcher(code).results().count(), 0);
        }
        Due.is("lambdas, method references", code.contains("->") || code.contains("::"), false);
        Set<String> imports = new TreeSet<>();
        Matcher m = Pattern.compile("(?m)^import ([^;]+);").matcher(code);
        while (m.find()) {
            imports.add(m.group(1));
        }
        Due.is("imports " + imports, Set.of("java.util.Arrays").containsAll(imports), true);
        Due.is("signs beyond 127", code.chars().anyMatch(c -> c > 127), false);
    }

    private static void face() {
        Set<String> seen = new TreeSet<>();
        for (Method method : LoafStreet.class.getDeclaredMethods()) {
            if (Modifier.isPublic(method.getModifiers())) {
                StringBuilder b = new StringBuilder(method.getName()).append('(');
                for (Class<?> type : method.getParameterTypes()) {
                    b.append(b.charAt(b.length() - 1) == '(' ? "" : ",").append(type.getName());
                }
                seen.add(b.append(')').toString());
            } else {
                Due.is(method + " is private", Modifier.isPrivate(method.getModifiers()), true);
            }
        }
        Due.is("the face is " + seen, seen.equals(new TreeSet<>(List.of(FACE.split(" ")))), true);
        for (Field field : LoafStreet.class.getDeclaredFields()) {
            boolean isPublic = Modifier.isPublic(field.getModifiers());
            Due.is(field + " is public", isPublic, field.getName().equals("NONE"));
            Due.is(field + " is private", Modifier.isPrivate(field.getModifiers()), !isPublic);
        }
        Constructor<?>[] makers = LoafStreet.class.getDeclaredConstructors();
        Due.is("constructors", makers.length, 1);
        Due.is("public and final", LoafStreet.class.getModifiers(), Modifier.PUBLIC | Modifier.FINAL);
    }

    private static List<Class<?>> classes() {
        List<Class<?>> all = new ArrayList<>(List.of(LoafStreet.class.getDeclaredClasses()));
        all.add(LoafStreet.class);
        return all;
    }

    private static void names() {
        Set<String> open = new TreeSet<>();
        for (Method method : LoafStreet.class.getDeclaredMethods()) {
            if (Modifier.isPublic(method.getModifiers())) {
                open.add(method.getName());
            }
        }
        for (Class<?> one : classes()) {
            Due.is(one + " is static or the class itself", one == LoafStreet.class || Modifier.isStatic(one.getModifiers()), true);
            for (Method method : one.getDeclaredMethods()) {
                boolean ofFace = one == LoafStreet.class && Modifier.isPublic(method.getModifiers());
                Due.is(method + " has a name of its own", ofFace || !open.contains(method.getName()), true);
                Due.is(method + " has at most seven parameters", method.getParameterCount() <= 7, true);
            }
            int fields = 0;
            for (Field field : one.getDeclaredFields()) {
                boolean isStatic = Modifier.isStatic(field.getModifiers());
                fields += isStatic ? 0 : 1;
                Due.is(field + " static, so final", !isStatic || Modifier.isFinal(field.getModifiers()), true);
            }
            Due.is(one + " has some twenty fields", fields <= 20, true);
        }
        Due.is("some twelve classes", classes().size() <= 12, true);
    }

    private static void sizes(String code) {
        int since = 0;
        String[] lines = code.split("\n");
        for (int i = 0; i < lines.length; i++) {
            if (lines[i].matches("    (    )?(private|public)[^=;]*\\) \\{")) {
                since = i;
            }
            Due.is("line " + (i + 1) + " is within sixty of its method", i - since <= 60 || !lines[i].startsWith("            "), true);
        }
    }
}
