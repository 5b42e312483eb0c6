import java.lang.reflect.Constructor;
import java.lang.reflect.Field;
import java.lang.reflect.Method;
import java.lang.reflect.Modifier;
import java.nio.file.Files;
import java.nio.file.Path;
import java.util.Map;
import java.util.Set;
import java.util.TreeMap;
import java.util.TreeSet;

/** The face is the document's and no more, and what LANGUAGE.md rules out stands nowhere in the file. */
public final class FaceTest {
    static final String FACE = "noise(int,int) seller(int,int,int) of(int,int,int) type(long,int) town() round(int) tune(int)"
            + " told(int,int,int) where(int,int) carries(int) heard(int,int) apart(int,int) likeness(int)"
            + " bylaw(int,boolean) count(int) buyer(int,int,int,int) fate(int,int) brings(int) day(int) best(int,int)"
            + " rests(int,int,int) fresh(int,int,int,int) loudness(int) quiet(int,int) costs(int,int)"
            + " window(int,int,boolean) went(int,int) shut() dies(int,int) clock(int,int) image() restore()"
            + " hands(int,int,int,int,int,int) came(int,int,int,int,int,int) sheet(int,int,int) drop(int)"
            + " item(int,int,int,int) copy(int,int,int,int,int)";

    static int wrong = 0;

    static void due(String what, Object got, Object want) {
        if (!got.equals(want)) {
            wrong++;
            System.out.println(what + ": " + got + ", due is " + want);
        }
    }

    static String signature(Method m) {
        StringBuilder b = new StringBuilder(m.getName()).append('(');
        for (Class<?> c : m.getParameterTypes()) {
            b.append(b.charAt(b.length() - 1) == '(' ? "" : ",").append(c.getName());
        }
        return b.append(')').toString();
    }

    static void methods() {
        Set<String> open = new TreeSet<>();
        Set<String> names = new TreeSet<>();
        for (Method m : StreetCries.class.getDeclaredMethods()) {
            if (!Modifier.isPrivate(m.getModifiers())) {
                open.add(signature(m));
                names.add(m.getName());
                due("answer of " + m, m.getReturnType(), int.class);
                due("public " + m, m.getModifiers(), Modifier.PUBLIC);
            }
        }
        due("the face", open, new TreeSet<>(Set.of(FACE.split(" "))));
        for (Method m : StreetCries.class.getDeclaredMethods()) {
            if (Modifier.isPrivate(m.getModifiers())) {
                due("a public one's name: " + m, names.contains(m.getName()), false);
            }
        }
    }

    static void constants() throws IllegalAccessException {
        Map<String, Integer> open = new TreeMap<>();
        for (Field f : StreetCries.class.getDeclaredFields()) {
            if (!Modifier.isPrivate(f.getModifiers())) {
                open.put(f.getName(), f.getInt(null));
                due("" + f, f.getModifiers(), Modifier.PUBLIC | Modifier.STATIC | Modifier.FINAL);
            }
        }
        due("constants", open, new TreeMap<>(Map.of("BAD", -1, "NOT", -2, "FULL", -3, "NONE", -4,
                "NULL", -11, "CAST", -12, "INDEX", -13, "SIZE", -14)));
    }

    static void classes() {
        due("final", StreetCries.class.getModifiers(), Modifier.PUBLIC | Modifier.FINAL);
        Constructor<?>[] made = StreetCries.class.getDeclaredConstructors();
        due("constructors", made.length, 1);
        due("public constructor", made[0].getModifiers(), Modifier.PUBLIC);
        due("without arguments", made[0].getParameterCount(), 0);
        for (Class<?> c : StreetCries.class.getDeclaredClasses()) {
            due("static " + c, Modifier.isStatic(c.getModifiers()), true);
            due("not open " + c, Modifier.isPublic(c.getModifiers()) || Modifier.isProtected(c.getModifiers()), false);
            for (Method m : c.getDeclaredMethods()) {
                due("seven parameters at most " + m, m.getParameterCount() <= 7, true);
            }
            int fields = 0;
            for (Field f : c.getDeclaredFields()) {
                fields += Modifier.isStatic(f.getModifiers()) ? 0 : 1;
                due("static and final " + f, !Modifier.isStatic(f.getModifiers()) || Modifier.isFinal(f.getModifiers()), true);
            }
            due("twenty fields at most " + c, fields <= 20, true);
        }
        due("twelve classes at most", StreetCries.class.getDeclaredClasses().length <= 11, true);
    }

    static void text() throws Exception {
        String text = Files.readString(Path.of("src/main/java/StreetCries.java"));
        String[] ruledOut = {"try {", "catch", "throw", "finally", "synchronized", "assert", "->", "::", "while (true)",
            "System.out", "random", "Random", "nanoTime", "currentTimeMillis", "Exact(", "package ", "hashCode", "toString"};
        for (String r : ruledOut) {
            due("'" + r + "' in the file", text.contains(r), false);
        }
        for (char c : text.toCharArray()) {
            if (c > 126) {
                due("a sign in the file", c, ' ');
            }
        }
    }

    public static void main(String[] args) throws Exception {
        methods();
        constants();
        classes();
        text();
        System.out.println(wrong == 0 ? "the face is as due" : wrong + " things are not as due");
        if (wrong != 0) {
            System.exit(1);
        }
    }
}
