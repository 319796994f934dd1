import java.io.IOException;
import java.lang.reflect.Method;
import java.lang.reflect.Modifier;
import java.nio.file.Files;
import java.nio.file.Path;
import java.util.Set;
import java.util.TreeSet;
import java.util.regex.Matcher;
import java.util.regex.Pattern;

/** The calls that README.md shows, made as they stand there: each answers the number behind it. */
public final class ReadmeTest {
    private static final Due DUE = new Due("ReadmeTest");
    private static final Pattern CALL = Pattern.compile("x\\.(\\w+)\\((.*)\\); +// (-?\\d+)\\b.*");

    public static void main(String[] args) throws IOException, ReflectiveOperationException {
        Set<String> unseen = new TreeSet<>();
        for (Method m : CellToObject.class.getDeclaredMethods()) {
            if (Modifier.isPublic(m.getModifiers())) unseen.add(m.getName());
        }
        CellToObject x = null;
        for (String line : Files.readAllLines(Path.of("README.md"))) {
            if (line.equals("CellToObject x = new CellToObject();")) x = new CellToObject();
            if (!line.startsWith("x.")) continue;
            Matcher m = CALL.matcher(line);
            DUE.holds("can be read: " + line, m.matches());
            if (!m.matches()) continue;
            DUE.is(line, call(x, m.group(1), m.group(2).split(", ")), Long.parseLong(m.group(3)));
            unseen.remove(m.group(1));
        }
        DUE.holds("README.md shows every method but " + unseen, unseen.isEmpty());
        DUE.finish();
    }

    private static long call(CellToObject x, String name, String[] words) throws ReflectiveOperationException {
        for (Method m : CellToObject.class.getDeclaredMethods()) {
            if (!m.getName().equals(name) || m.getParameterCount() != words.length) continue;
            Object[] numbers = new Object[words.length];
            for (int i = 0; i < words.length; i++) {
                numbers[i] = m.getParameterTypes()[i] == boolean.class ? (Object) Boolean.valueOf(words[i]) : (Object) sum(words[i]);
            }
            return ((Number) m.invoke(x, numbers)).longValue();
        }
        throw new IllegalStateException("no such call: " + name);
    }

    private static int sum(String words) {
        int sum = 0;
        for (String word : words.split(" \\+ ")) sum += Integer.parseInt(word);
        return sum;
    }
}
