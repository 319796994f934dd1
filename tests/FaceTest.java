import java.io.IOException;
import java.lang.reflect.Constructor;
import java.lang.reflect.Field;
import java.lang.reflect.Method;
import java.lang.reflect.Modifier;
import java.nio.file.Files;
import java.nio.file.Path;
import java.util.Arrays;
import java.util.HashSet;
import java.util.Set;
import java.util.TreeSet;
import java.util.regex.Pattern;

/** The face of the document, and what of LANGUAGE.md can be seen from outside or word by word. */
public final class FaceTest {
    private static final Due DUE = new Due("FaceTest");
    private static final Path SOURCE = Path.of("src/main/java/CellToObject.java");
    private static final String[] FACE = {
        "int limit(int)", "int flip(int,int)", "int refresh(int,int)", "int cell(int,int)",
        "int open(int)", "int patterns(int,int)", "int lines(int,int)", "int rule(int,int)",
        "int line(int,int)", "int frames(int)", "int page(int,int)", "int load(int,int)",
        "int save(int,int,int)", "int fewest(int)", "int make(int,int,boolean)",
        "int get(int,int,int)", "int put(int,int,int,int)", "int hold(boolean,int,int)",
        "int gather(int)", "int about(int,int)", "int room(int,int)", "long blame(int)",
        "int count(int)"
    };

    public static void main(String[] args) throws IOException {
        face();
        classesInside();
        words();
        DUE.finish();
    }

    private static String signature(Method m) {
        StringBuilder s = new StringBuilder(m.getReturnType() + " " + m.getName() + "(");
        for (Class<?> c : m.getParameterTypes()) s.append(s.charAt(s.length() - 1) == '(' ? "" : ",").append(c);
        return s.append(")").toString();
    }

    private static void face() {
        Class<?> face = CellToObject.class;
        DUE.holds("the class is public and final", Modifier.isPublic(face.getModifiers()) && Modifier.isFinal(face.getModifiers()));
        Set<String> open = new TreeSet<>();
        for (Method m : face.getDeclaredMethods()) {
            if (Modifier.isPrivate(m.getModifiers())) continue;
            open.add(signature(m));
            DUE.holds(m.getName() + " is public, not static", m.getModifiers() == Modifier.PUBLIC);
        }
        DUE.holds("the methods are the document's: " + open, open.equals(new TreeSet<>(Arrays.asList(FACE))));
        Set<String> constants = new TreeSet<>();
        for (Field f : face.getDeclaredFields()) {
            if (!Modifier.isPrivate(f.getModifiers())) constants.add(f.getName());
        }
        DUE.holds("the constants: " + constants, constants.equals(Set.of("BAD", "NO", "FULL", "NONE", "LOST")));
        Constructor<?>[] made = face.getDeclaredConstructors();
        DUE.is("constructors", made.length, 1);
        DUE.is("of so many parameters", made[0].getParameterCount(), 0);
        DUE.holds("and public", Modifier.isPublic(made[0].getModifiers()));
    }

    private static void classesInside() {
        Set<String> names = new HashSet<>();
        for (String s : FACE) names.add(s.substring(s.indexOf(' ') + 1, s.indexOf('(')));
        Class<?>[] inside = CellToObject.class.getDeclaredClasses();
        DUE.holds("at most twelve classes", inside.length < 12);
        for (Class<?> c : inside) {
            DUE.holds(c + " is static, not public", Modifier.isStatic(c.getModifiers()) && !Modifier.isPublic(c.getModifiers()));
            int fields = 0;
            for (Field f : c.getDeclaredFields()) {
                if (!Modifier.isStatic(f.getModifiers())) fields++;
                else DUE.holds(f + " is final", Modifier.isFinal(f.getModifiers()));
            }
            DUE.holds(c + " has at most twenty fields", fields <= 20);
            for (Method m : c.getDeclaredMethods()) {
                DUE.holds(m + " bears no public name", !names.contains(m.getName()));
                DUE.holds(m + " takes at most seven", m.getParameterCount() <= 7);
            }
        }
    }

    private static void words() throws IOException {
        String text = Files.readString(SOURCE).replaceAll("(?s)/\\*.*?\\*/", "").replaceAll("//.*", "");
        for (String word : new String[] {"throw", "throws", "try", "catch", "synchronized", "assert",
            "package", "Object", "Exception", "Random", "Thread", "nanoTime", "currentTimeMillis"}) {
            DUE.holds("no word " + word, !Pattern.compile("\\b" + word + "\\b").matcher(text).find());
        }
        for (String sign : new String[] {"->", "::"}) DUE.holds("no " + sign, !text.contains(sign));
        for (int i = 0; i < text.length(); i++) {
            if (text.charAt(i) > 126) DUE.holds("sign " + i + " is plain", false);
        }
    }
}
