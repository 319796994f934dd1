import java.io.IOException;
import java.lang.reflect.Constructor;
import java.lang.reflect.Field;
import java.lang.reflect.Method;
import java.lang.reflect.Modifier;
import java.nio.file.Files;
import java.nio.file.Path;
import java.util.Arrays;
import java.util.HashSet;
import java.util.Map;
import java.util.Set;
import java.util.TreeMap;
import java.util.TreeSet;
import java.util.regex.Matcher;
import java.util.regex.Pattern;

/** The face of the document, and what of LANGUAGE.md can be seen from outside or word by word. */
public final class FaceTest {
    private static final Due DUE = new Due("FaceTest");
    private static final Path SOURCE = Path.of("src/main/java/CellToObject.java");
    private static final String[] FACE = {
        "int limit(int)", "int flip(int,int)", "int refresh(int,int)", "int cell(int,int)",
        "int open(int)", "int patterns(int,int)", "int lines(int,int)", "int rule(int,int)",
        "int line(int,int)", "int frames(int)", "int page(int,int)", "int load(int,int)",
        "int save(int,int,int)", "int fewest(int)", "int make(int,int,boolean)",
        "int get(int,int,int)", "int put(int,int,int,int)", "int hold(boolean,int,int)",
        "int gather(int)", "int about(int,int)", "int room(int,int)", "long blame(int)",
        "int count(int)"
    };

    public static void main(String[] args) throws IOException {
        face();
        classesInside();
        words();
        methods();
        anyCallEnds();
        DUE.finish();
    }

    private static String signature(Method m) {
        StringBuilder s = new StringBuilder(m.getReturnType() + " " + m.getName() + "(");
        for (Class<?> c : m.getParameterTypes()) s.append(s.charAt(s.length() - 1) == '(' ? "" : ",").append(c);
        return s.append(")").toString();
    }

    private static void face() {
        Class<?> face = CellToObject.class;
        DUE.holds("the class is public and final", Modifier.isPublic(face.getModifiers()) && Modifier.isFinal(face.getModifiers()));
        Set<String> open = new TreeSet<>();
        for (Method m : face.getDeclaredMethods()) {
            if (Modifier.isPrivate(m.getModifiers())) continue;
            open.add(signature(m));
            DUE.holds(m.getName() + " is public, not static", m.getModifiers() == Modifier.PUBLIC);
        }
        DUE.holds("the methods are the document's: " + open, open.equals(new TreeSet<>(Arrays.asList(FACE))));
        Set<String> constants = new TreeSet<>();
        for (Field f : face.getDeclaredFields()) {
            if (!Modifier.isPrivate(f.getModifiers())) constants.add(f.getName());
        }
        DUE.holds("the constants: " + constants, constants.equals(Set.of("BAD", "NO", "FULL", "NONE", "LOST")));
        Constructor<?>[] made = face.getDeclaredConstructors();
        DUE.is("constructors", made.length, 1);
        DUE.is("of so many parameters", made[0].getParameterCount(), 0);
        DUE.holds("and public", Modifier.isPublic(made[0].getModifiers()));
    }

    private static void classesInside() {
        Set<String> names = new HashSet<>();
        for (String s : FACE) names.add(s.substring(s.indexOf(' ') + 1, s.indexOf('(')));
        Class<?>[] inside = CellToObject.class.getDeclaredClasses();
        DUE.holds("at most twelve classes", inside.length < 12);
        for (Class<?> c : inside) {
            DUE.holds(c + " is static, not public", Modifier.isStatic(c.getModifiers()) && !Modifier.isPublic(c.getModifiers()));
            int fields = 0;
            for (Field f : c.getDeclaredFields()) {
                if (!Modifier.isStatic(f.getModifiers())) fields++;
                else DUE.holds(f + " is final", Modifier.isFinal(f.getModifiers()));
            }
            DUE.holds(c + " has at most twenty fields", fields <= 20);
            for (Method m : c.getDeclaredMethods()) {
                DUE.holds(m + " bears no public name", !names.contains(m.getName()));
                DUE.holds(m + " takes at most seven", m.getParameterCount() <= 7);
            }
        }
    }

    private static String code() throws IOException {
        return Files.readString(SOURCE).replaceAll("(?s)/\\*.*?\\*/", "").replaceAll("//.*", "");
    }

    private static void words() throws IOException {
        String text = code();
        for (String word : new String[] {"throw", "throws", "try", "catch", "synchronized", "assert",
            "package", "Object", "Exception", "Random", "Thread", "nanoTime", "currentTimeMillis"}) {
            DUE.holds("no word " + word, !Pattern.compile("\\b" + word + "\\b").matcher(text).find());
        }
        for (String sign : new String[] {"->", "::"}) DUE.holds("no " + sign, !text.contains(sign));
        for (int i = 0; i < text.length(); i++) {
            if (text.charAt(i) > 126) DUE.holds("sign " + i + " is plain", false);
        }
    }

    /** Bodies of methods by their names: of each name there is one, so that who calls whom can be seen word by word. */
    private static void methods() throws IOException {
        String text = code();
        Map<String, String> bodies = new TreeMap<>();
        Matcher m = Pattern.compile("\\b(?:int|long|boolean|void) (\\w+)\\([^)]*\\) \\{").matcher(text);
        while (m.find()) {
            int depth = 1, end = m.end();
            while (depth > 0) {
                char c = text.charAt(end++);
                depth += c == '{' ? 1 : c == '}' ? -1 : 0;
            }
            DUE.holds(m.group(1) + " is one method", bodies.put(m.group(1), text.substring(m.end(), end)) == null);
        }
        DUE.holds("all methods are seen", bodies.size() > FACE.length + 30);
        for (Map.Entry<String, String> body : bodies.entrySet()) {
            DUE.holds(body.getKey() + " is short", body.getValue().split("\n").length <= 60);
            DUE.holds(body.getKey() + " goes at most eight deep", depth(body.getKey(), bodies, 1) <= 8);
        }
    }

    /** How many methods are open at most, this one too; a recursion shows as too many. */
    private static int depth(String method, Map<String, String> bodies, int open) {
        int deepest = open;
        if (open > 20) return open;
        Matcher m = Pattern.compile("\\b(\\w+)\\(").matcher(bodies.get(method));
        while (m.find()) {
            if (bodies.containsKey(m.group(1))) deepest = Math.max(deepest, depth(m.group(1), bodies, open + 1));
        }
        return deepest;
    }

    /** Wild numbers, and far more calls than promised: whatever is answered, nothing is thrown and each call ends. */
    private static void anyCallEnds() throws IOException {
        Method[] calls = CellToObject.class.getDeclaredMethods();
        Arrays.sort(calls, (a, b) -> a.getName().compareTo(b.getName()));
        long seed = 1;
        for (int object = 0; object < 8; object++) {
            CellToObject x = new CellToObject();
            for (int i = 0; i < 20000; i++) {
                seed = seed * 6364136223846793005L + 1442695040888963407L;
                Method call = calls[(int) (seed >>> 33) % calls.length];
                if (!Modifier.isPublic(call.getModifiers()) || call.getName().equals("patterns")) continue;
                Object[] numbers = new Object[call.getParameterCount()];
                for (int p = 0; p < numbers.length; p++) {
                    seed = seed * 6364136223846793005L + 1442695040888963407L;
                    numbers[p] = call.getParameterTypes()[p] == boolean.class ? (Object) (seed < 0) : (Object) number(seed);
                }
                try {
                    call.invoke(x, numbers);
                } catch (ReflectiveOperationException e) {
                    DUE.holds(call.getName() + Arrays.toString(numbers) + " throws " + e.getCause(), false);
                }
            }
        }
    }

    private static int number(long seed) {
        int bits = (int) (seed >>> 32);
        int kind = (int) (seed >>> 28 & 15);
        if (kind == 0) return bits;
        if (kind == 1) return bits % 2 == 0 ? Integer.MAX_VALUE : Integer.MIN_VALUE;
        return Math.floorMod(bits, new int[] {2, 3, 4, 5, 8, 16, 24, 40, 64, 168, 256, 512, 1024, 1100}[kind - 2]);
    }
}
