import com.sun.management.ThreadMXBean;
import java.io.IOException;
import java.lang.management.ManagementFactory;
import java.lang.reflect.Constructor;
import java.lang.reflect.Field;
import java.lang.reflect.Method;
import java.lang.reflect.Modifier;
import java.nio.file.Files;
import java.nio.file.Path;
import java.util.ArrayList;
import java.util.Arrays;
import java.util.HashSet;
import java.util.List;
import java.util.Set;
import java.util.TreeSet;
import java.util.regex.Matcher;
import java.util.regex.Pattern;

/** The public face, what LANGUAGE.md rules out, and that no call throws for any arguments. */
public final class RulesTest {
    private static final Path SOURCE = Path.of("src/main/java/TwinTreeVolume.java");
    private static final Path DOCUMENT = Path.of("../shared/DOC.md");

    private RulesTest() {
    }

    public static void main(String[] args) throws Exception {
        face();
        members();
        words();
        lengths();
        room();
        oddArguments();
        longRun();
        Checks.end();
    }

    /** The document's own lines of the face, as "long sure(int, int, int)". */
    private static Set<String> faceOfDocument() throws IOException {
        Set<String> face = new TreeSet<>();
        Matcher m = Pattern.compile("    public (int|long) (\\w+)\\(([^)]*)\\);").matcher(Files.readString(DOCUMENT));
        while (m.find()) {
            face.add(m.group(1) + " " + m.group(2) + "(" + m.group(3).replaceAll("int \\w+", "int") + ")");
        }
        return face;
    }

    private static void face() throws IOException {
        Set<String> face = new TreeSet<>();
        for (Method m : TwinTreeVolume.class.getDeclaredMethods()) {
            if (Modifier.isPublic(m.getModifiers())) {
                String arguments = String.join(", ", Arrays.stream(m.getParameterTypes()).map(Class::getName).toList());
                face.add(m.getReturnType() + " " + m.getName() + "(" + arguments + ")");
            } else {
                Checks.holds(m + " is private", Modifier.isPrivate(m.getModifiers()));
            }
        }
        Checks.due("calls of the face", face.size(), 40);
        Checks.holds("the face is the document's", face.equals(faceOfDocument()));
        int modifiers = TwinTreeVolume.class.getModifiers();
        Checks.holds("public and final", Modifier.isPublic(modifiers) && Modifier.isFinal(modifiers));
        Constructor<?>[] made = TwinTreeVolume.class.getDeclaredConstructors();
        Checks.holds("one constructor", made.length == 1 && made[0].getParameterCount() == 0);
        Checks.holds("it is public", Modifier.isPublic(made[0].getModifiers()));
    }

    private static void members() {
        Set<String> names = new HashSet<>();
        for (Method m : TwinTreeVolume.class.getDeclaredMethods()) {
            if (Modifier.isPublic(m.getModifiers())) {
                names.add(m.getName());
            }
        }
        List<Class<?>> classes = new ArrayList<>(List.of(TwinTreeVolume.class.getDeclaredClasses()));
        Checks.holds("at most some twelve classes", classes.size() <= 12);
        classes.add(TwinTreeVolume.class);
        for (Class<?> c : classes) {
            boolean isOuter = c == TwinTreeVolume.class;
            Checks.holds(c + " is static", isOuter || Modifier.isStatic(c.getModifiers()));
            int fields = 0;
            for (Field f : c.getDeclaredFields()) {
                boolean isStatic = Modifier.isStatic(f.getModifiers());
                fields += isStatic ? 0 : 1;
                Checks.holds(f + " is private", !isOuter || Modifier.isPrivate(f.getModifiers()));
                Checks.holds(f + " is a constant", !isStatic || Modifier.isFinal(f.getModifiers()));
            }
            Checks.holds(c + " has twenty fields at most", fields <= 20);
            for (Method m : c.getDeclaredMethods()) {
                Checks.holds(m + " takes seven parameters at most", m.getParameterCount() <= 7);
                boolean bears = Modifier.isPrivate(m.getModifiers()) && names.contains(m.getName());
                Checks.holds(m + " does not bear a name of the face", !bears);
            }
        }
    }

    private static String code() throws IOException {
        return Files.readString(SOURCE).replaceAll("(?s)/\\*.*?\\*/", "").replaceAll("//.*", "");
    }

    private static void words() throws IOException {
        String code = code();
        Matcher m = Pattern.compile("\\b(throw|throws|try|catch|finally|synchronized|assert|package|native|volatile"
                + "|protected|Object|Thread|Math\\.random|System\\.(?!arraycopy)\\w+|\\w+Exact"
                + "|import (?!java\\.util\\.(ArrayList|List|Arrays|Iterator);))\\b|\\) ->|::").matcher(code);
        while (m.find()) {
            Checks.holds("the class is without " + m.group(), false);
        }
        for (char c : code.toCharArray()) {
            Checks.holds("signs 1 to 127", c >= 1 && c <= 127);
        }
    }

    /** All calls of a run share one room; an eighth of it is far more than the 512 calls of one object may take. */
    private static void room() throws Exception {
        ThreadMXBean threads = (ThreadMXBean) ManagementFactory.getThreadMXBean();
        TwinTreeVolume x = Checks.made("a00024;a10024;a20016;p00303;p10904;p20502;", "w00301;w00402;w11003;w30004;k0c;");
        long before = threads.getThreadAllocatedBytes(Thread.currentThread().getId());
        for (int i = 0; i < 64; i++) {
            x.order(1);
            x.kindBest(i % 4, 0);
            x.lost(i % 4, 0);
            x.lots(20, i, 1);
            x.two(i % 4, (i + 1) % 4);
            x.which(i % 4);
            x.volume();
        }
        long taken = threads.getThreadAllocatedBytes(Thread.currentThread().getId()) - before;
        Checks.holds("448 of the dearest calls took " + taken + " bytes", taken < 8000000);
    }

    private static void lengths() throws IOException {
        String[] lines = code().split("\n");
        int begin = 0;
        for (int i = 0; i < lines.length; i++) {
            if (lines[i].matches("\\s*(public|private) .*\\(.*\\{")) {
                begin = i;
            }
            if (lines[i].matches("( {4}| {8})}")) {
                Checks.holds("at most sixty lines: " + lines[begin], i - begin < 60);
            }
        }
    }

    private static final int[] ODD = {
        0, 1, 2, 3, -1, 4, 5, 6, 23, 24, 31, 32, 63, 64, 65, 95, 96, 99, 100, 255, 256, 1000, -1000,
        Integer.MAX_VALUE, Integer.MIN_VALUE, Integer.MAX_VALUE - 1, Integer.MIN_VALUE + 1,
    };

    private static Object[] arguments(Method m, int i) {
        Object[] arguments = new Object[m.getParameterCount()];
        int rest = i;
        for (int a = 0; a < arguments.length; a++) {
            arguments[a] = ODD[rest % ODD.length];
            rest /= ODD.length;
        }
        return arguments;
    }

    /** Every call with every mix of odd numbers, on objects in some states; reflection would tell what is thrown. */
    private static void oddArguments() throws Exception {
        String[][] states = {
            {},
            {"a00024;a10024;a20016;p00303;p10904;p20502;", "w00301;w00402;w11003;w30004;k0c;k1s;"},
            {"k3h;w00001;w02302;f0;w00003;w01004;w32305;a30004;"},
        };
        for (String[] state : states) {
            for (Method m : TwinTreeVolume.class.getDeclaredMethods()) {
                int mixes = (int) Math.pow(ODD.length, m.getParameterCount());
                for (int i = 0; Modifier.isPublic(m.getModifiers()) && i < mixes; i += mixes > 1000 ? 7 : 1) {
                    TwinTreeVolume x = Checks.made(state);
                    m.invoke(x, arguments(m, i));
                    int taken = 0;
                    for (int b = 0; b < 64; b++) {
                        taken += x.whose(b, 0) == -9 ? 0 : 1;
                    }
                    int placed = x.file(0, 1) + x.file(1, 1) + x.file(2, 1) + x.file(3, 1);
                    Checks.holds("blocks and pages agree behind " + m.getName(), taken == placed);
                    Checks.holds("room for all that wait behind " + m.getName(), x.count(1) <= x.count(0));
                }
            }
        }
    }

    /** Nothing is promised behind the 512th call, but that nothing is thrown and every call ends. */
    private static void longRun() throws Exception {
        TwinTreeVolume x = new TwinTreeVolume();
        Method[] calls = TwinTreeVolume.class.getDeclaredMethods();
        Arrays.sort(calls, (a, b) -> a.getName().compareTo(b.getName()));
        int made = 0;
        for (int i = 0; i < 60000; i++) {
            Method m = calls[(i * 31 + i / 97) % calls.length];
            if (Modifier.isPublic(m.getModifiers())) {
                m.invoke(x, arguments(m, i * 7919 % 20000));
                made++;
            }
        }
        Checks.holds("a long run ends", made > 30000);
    }
}
