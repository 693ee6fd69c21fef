import java.io.IOException;
import java.lang.reflect.Constructor;
import java.lang.reflect.Field;
import java.lang.reflect.Method;
import java.lang.reflect.Modifier;
import java.nio.file.Files;
import java.nio.file.Path;
import java.util.HashSet;
import java.util.List;
import java.util.Set;
import java.util.TreeSet;

/** The public face of the document, and those rules of LANGUAGE.md that can be seen from outside. */
public final class FaceTest {
    private static final Check c = new Check("FaceTest");
    private static final List<String> METHODS = List.of(
        "int all(int)", "int at(int,int,int)", "int began()", "int best(int)", "int board(int,int,int)",
        "int bus(int,int)", "int fault()", "int follow(int,int)", "int free()", "int held(int,int,int)",
        "int late(int,int,int)", "int mend()", "int one(int)", "int rule()", "int say(int)", "int set(int,int)",
        "int spread(int)", "int stop(int,int,int)", "int told(int)", "int turn(int,int)", "int waited(int,int)",
        "int wipe()", "long mean(int,int,int)");

    private FaceTest() {
    }

    public static void main(String[] args) throws IOException {
        constants();
        members();
        nestedClasses();
        words();
        lengths();
        c.end();
    }

    private static void constants() {
        c.due("NONE", BusThrees.NONE, -6);
        c.due("UNKNOWN", BusThrees.UNKNOWN, -1);
        c.due("OUTSIDE", BusThrees.OUTSIDE, -2);
        c.due("STATE", BusThrees.STATE, -3);
        c.due("FULL", BusThrees.FULL, -4);
        c.due("NO", BusThrees.NO, -5);
        c.due("LOST", BusThrees.LOST, -1000000000000000000L);
        Set<String> open = new TreeSet<>();
        for (Field f : BusThrees.class.getDeclaredFields()) {
            if (!Modifier.isPrivate(f.getModifiers())) {
                open.add(f.toGenericString());
            }
            if (Modifier.isStatic(f.getModifiers())) {
                c.holds(f + " is final", Modifier.isFinal(f.getModifiers()));
            }
        }
        Set<String> want = new TreeSet<>();
        for (String name : List.of("NONE", "UNKNOWN", "OUTSIDE", "STATE", "FULL", "NO")) {
            want.add("public static final int BusThrees." + name);
        }
        want.add("public static final long BusThrees.LOST");
        c.holds("constants are " + want + ", not " + open, open.equals(want));
    }

    private static void members() {
        c.holds("public and final", Modifier.isPublic(BusThrees.class.getModifiers())
            && Modifier.isFinal(BusThrees.class.getModifiers()));
        Set<String> open = new TreeSet<>();
        Set<String> openNames = new HashSet<>();
        for (Method m : BusThrees.class.getDeclaredMethods()) {
            if (Modifier.isPublic(m.getModifiers())) {
                String whole = m.toGenericString().replace("public ", "").replace("BusThrees.", "").replace(", ", ",");
                open.add(whole);
                openNames.add(m.getName());
            }
        }
        c.holds("methods are " + METHODS + ", not " + open, open.equals(new TreeSet<>(METHODS)));
        for (Method m : BusThrees.class.getDeclaredMethods()) {
            boolean isPublic = Modifier.isPublic(m.getModifiers());
            c.holds(m + " is public or private", isPublic || Modifier.isPrivate(m.getModifiers()));
            c.holds(m + " has a name of its own", isPublic || !openNames.contains(m.getName()));
        }
        Constructor<?>[] made = BusThrees.class.getDeclaredConstructors();
        c.due("constructors", made.length, 1);
        c.holds("its constructor", Modifier.isPublic(made[0].getModifiers()) && made[0].getParameterCount() == 0);
    }

    private static void nestedClasses() {
        Class<?>[] inside = BusThrees.class.getDeclaredClasses();
        c.holds("some twelve classes", inside.length <= 11);
        for (Class<?> nested : inside) {
            int how = nested.getModifiers();
            c.holds(nested + " is static", Modifier.isStatic(how));
            c.holds(nested + " is not open", !Modifier.isPublic(how) && !Modifier.isProtected(how));
            int fields = 0;
            for (Field f : nested.getDeclaredFields()) {
                boolean isStatic = Modifier.isStatic(f.getModifiers());
                c.holds(f + " is final if static", !isStatic || Modifier.isFinal(f.getModifiers()));
                fields += isStatic ? 0 : 1;
            }
            c.holds(nested + " has some twenty fields", fields <= 20);
            for (Method m : nested.getDeclaredMethods()) {
                c.holds(m + " takes at most seven", m.getParameterCount() <= 7);
            }
        }
    }

    private static void words() throws IOException {
        String text = Files.readString(Path.of("src/main/java/BusThrees.java"));
        for (String word : List.of("->", "::", "catch", "try ", "finally", "throw", "synchronized", "assert",
                "System.", "Exact", "package ", "Object", "instanceof", "double", "float")) {
            c.holds("without '" + word + "'", !text.contains(word));
        }
        for (String row : text.split("\n")) {
            c.holds(row, !row.startsWith("import ") || row.equals("import java.util.Arrays;"));
        }
        boolean plain = true;
        for (int i = 0; i < text.length(); i++) {
            plain &= text.charAt(i) < 127;
        }
        c.holds("only plain signs", plain);
    }

    /** A method ends at the first row that is as far to the right as its own, and holds a } alone. */
    private static void lengths() throws IOException {
        List<String> rows = Files.readAllLines(Path.of("src/main/java/BusThrees.java"));
        int methods = 0;
        for (int i = 0; i < rows.size(); i++) {
            String row = rows.get(i);
            if (row.matches("( {4}| {8})\\w[^=]*\\) \\{") && !row.matches(" +(if|for|while|switch) .*")) {
                int end = i + 1 + rows.subList(i + 1, rows.size()).indexOf(row.replaceAll("\\S.*", "}"));
                c.holds("some sixty rows at most: " + row, end > i && end - i < 60);
                methods++;
            }
        }
        c.holds("there are methods", methods > 60);
    }
}
