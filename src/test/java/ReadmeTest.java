import java.io.IOException;
import java.lang.reflect.Method;
import java.lang.reflect.Modifier;
import java.nio.file.Files;
import java.nio.file.Path;
import java.util.regex.Matcher;
import java.util.regex.Pattern;

/** README.md tells the truth: its calls answer as it says, and it has every call of the face and every test. */
public final class ReadmeTest {
    private static final Pattern CALL = Pattern.compile("(?m)^(?:x\\.(\\w+)\\((.*)\\)|tell\\(x, \"(.*)\"\\));\\s*// ([^:\n]+)");

    private ReadmeTest() {
    }

    public static void main(String[] args) throws IOException, ReflectiveOperationException {
        String readme = Files.readString(Path.of("README.md"));
        LoafStreet x = new LoafStreet();
        int calls = 0;
        Matcher line = CALL.matcher(readme);
        while (line.find()) {
            String answer = line.group(3) == null ? answer(x, line.group(1), line.group(2)) : "" + tell(x, line.group(3));
            Due.is(line.group() + " (answered " + answer + ")", answer.equals(line.group(4).strip()), true);
            calls++;
        }
        Due.is("README has calls", calls > 30, true);
        for (Method method : LoafStreet.class.getDeclaredMethods()) {
            if (Modifier.isPublic(method.getModifiers())) {
                Due.is("README has " + method.getName(), readme.contains("x." + method.getName() + "("), true);
            }
        }
        tests(readme);
        String source = Files.readString(Path.of("src/test/java/ReadmeTest.java"));
        int begin = source.indexOf("\n    static int tell(") + 1;
        String helper = source.substring(begin, source.indexOf("\n    }\n", begin) + 7).replaceAll("(?m)^    ", "");
        Due.is("README has tell as it stands here", readme.contains(helper), true);
        Due.end("ReadmeTest");
    }

    private static String answer(LoafStreet x, String name, String told) throws ReflectiveOperationException {
        for (Method method : LoafStreet.class.getDeclaredMethods()) {
            if (method.getName().equals(name)) {
                Class<?>[] types = method.getParameterTypes();
                String[] texts = told.isEmpty() ? new String[0] : told.split(", *");
                Object[] values = new Object[types.length];
                for (int i = 0; i < types.length && types.length == texts.length; i++) {
                    values[i] = types[i] == boolean.class ? (Object) Boolean.valueOf(texts[i]) : (Object) Integer.valueOf(texts[i]);
                }
                return "" + method.invoke(x, values);
            }
        }
        return "no such call";
    }

    static int tell(LoafStreet x, String text) {
        StringBuilder t = new StringBuilder(text);
        while (t.length() % 20 != 0) {
            t.append(' ');
        }
        int[] four = new int[t.length() / 4];
        for (int i = 0; i < t.length(); i++) {
            four[i / 4] = four[i / 4] << 8 | t.charAt(i);
        }
        for (int i = 0; i < four.length; i += 5) {
            x.feed(four[i], four[i + 1], four[i + 2], four[i + 3], four[i + 4]);
        }
        return x.street(text.length());
    }

    private static void tests(String readme) throws IOException {
        try (var files = Files.list(Path.of("src/test/java"))) {
            for (Path file : (Iterable<Path>) files::iterator) {
                String name = file.getFileName().toString().replace(".java", "");
                Due.is("README has " + name, Pattern.compile("\\b" + name + "\\b").matcher(readme).find(), true);
            }
        }
    }
}
