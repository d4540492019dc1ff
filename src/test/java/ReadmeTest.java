import java.lang.reflect.Method;
import java.nio.file.Files;
import java.nio.file.Path;
import java.util.regex.Matcher;
import java.util.regex.Pattern;

/** The example of README.md: each call of it answers what its comment begins with. */
public final class ReadmeTest {
    private static final Pattern CALL = Pattern.compile("x\\.(\\w+)\\((.*)\\);\\s*// (-?\\w+).*");

    private static final Answers answers = new Answers();

    public static void main(String[] args) throws ReflectiveOperationException, java.io.IOException {
        ChannelProgramRunner x = null;
        boolean inExample = false;
        for (String line : Files.readAllLines(Path.of("README.md"))) {
            if (line.startsWith("```")) {
                inExample = line.equals("```java");
            } else if (inExample && line.equals("ChannelProgramRunner x = new ChannelProgramRunner();")) {
                x = new ChannelProgramRunner();
            } else if (inExample) {
                Matcher call = CALL.matcher(line);
                answers.due("'" + line + "' is a call with its answer", true, call.matches());
                if (call.matches()) {
                    answers.due(line, value(call.group(3)), made(x, call.group(1), call.group(2)));
                }
            }
        }
        answers.finish();
    }

    private static long value(String word) throws ReflectiveOperationException {
        if (word.matches("-?[0-9]+")) {
            return Long.parseLong(word);
        }
        if (word.equals("true") || word.equals("false")) {
            return word.equals("true") ? 1 : 0;
        }
        return ChannelProgramRunner.class.getField(word).getInt(null);
    }

    private static long made(ChannelProgramRunner x, String name, String written) throws ReflectiveOperationException {
        String[] words = written.isEmpty() ? new String[0] : written.split(", ");
        Object[] arguments = new Object[words.length];
        for (int i = 0; i < words.length; i++) {
            arguments[i] = Integer.parseInt(words[i]);
        }
        for (Method method : ChannelProgramRunner.class.getDeclaredMethods()) {
            if (method.getName().equals(name)) {
                Object answer = method.invoke(x, arguments);
                return answer instanceof Boolean truth ? (truth ? 1 : 0) : ((Number) answer).longValue();
            }
        }
        throw new NoSuchMethodException(name);
    }
}
