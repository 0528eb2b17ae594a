import java.io.IOException;
import java.nio.file.Files;
import java.nio.file.Path;
import java.util.regex.Matcher;
import java.util.regex.Pattern;

/** The calls that README.md tells as an example have the answers that it tells. */
public final class ReadmeTest {
    private static final Pattern CALL = Pattern.compile("x\\.(\\w+)\\((.*)\\); *// (-?\\d+): .*");

    public static void main(String[] args) throws IOException, ReflectiveOperationException {
        KindRounds x = new KindRounds();
        int calls = 0;
        for (String line : Files.readAllLines(Path.of("README.md"))) {
            Matcher call = CALL.matcher(line);
            if (call.matches()) {
                Due.is(line, answer(x, call.group(1), call.group(2)), Integer.parseInt(call.group(3)));
                calls++;
            }
        }
        Due.is("the example has calls", calls > 0 ? 1 : 0, 1);
        Due.end();
    }

    private static int answer(KindRounds x, String name, String numbers) throws ReflectiveOperationException {
        String[] told = numbers.isEmpty() ? new String[0] : numbers.split(", ");
        Class<?>[] types = new Class<?>[told.length];
        Object[] values = new Object[told.length];
        for (int i = 0; i < told.length; i++) {
            types[i] = int.class;
            values[i] = Integer.decode(told[i]);
        }
        return (int) KindRounds.class.getMethod(name, types).invoke(x, values);
    }
}
