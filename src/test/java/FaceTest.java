import java.io.IOException;
import java.lang.reflect.Constructor;
import java.lang.reflect.Field;
import java.lang.reflect.Method;
import java.lang.reflect.Modifier;
import java.nio.file.Files;
import java.nio.file.Path;
import java.util.Set;
import java.util.TreeSet;

/** The face of the class, and what a test can see of the rules of LANGUAGE.md. It runs in the project's directory. */
public final class FaceTest {
    private static final Check CHECK = new Check("FaceTest");
    private static final String INDEX = " throws java.lang.IndexOutOfBoundsException";
    private static final String BOTH = INDEX + ",java.lang.IllegalArgumentException";
    private static final String[] FACE = {
        "public char Sealhouse.put(int,int)" + INDEX,
        "public char Sealhouse.move(int,int)" + INDEX,
        "public char Sealhouse.narrow(int,int,int,int)" + BOTH,
        "public char Sealhouse.restrict(int,int,int)" + BOTH,
        "public char Sealhouse.step(int,int,int)" + BOTH,
        "public char Sealhouse.load(int,int)" + INDEX,
        "public char Sealhouse.store(int,int)" + INDEX,
        "public char Sealhouse.seal(int,int)" + INDEX,
        "public char Sealhouse.unseal(int,int)" + INDEX,
        "public char Sealhouse.call(int)" + INDEX,
        "public char Sealhouse.callSealed(int)" + INDEX,
        "public int Sealhouse.leave() throws java.lang.IllegalStateException",
        "public char Sealhouse.get(int,int)" + BOTH,
        "public char Sealhouse.free(int)" + INDEX,
        "public int Sealhouse.sweep()",
        "public int Sealhouse.setQuota(int,int)" + BOTH,
        "public int Sealhouse.counted(int)" + INDEX,
        "public char Sealhouse.stateOf(int)" + INDEX,
        "public int Sealhouse.value(int)" + INDEX,
        "public boolean Sealhouse.isRight(int)" + INDEX,
        "public int Sealhouse.ask(int,char)" + BOTH + ",java.util.NoSuchElementException",
        "public int Sealhouse.cell(int)" + INDEX,
        "public boolean Sealhouse.hasRight(int)" + INDEX,
        "public int Sealhouse.depth()",
        "public int Sealhouse.runs(int)" + INDEX,
        "public boolean Sealhouse.reaches(int,int)" + INDEX,
        "public boolean Sealhouse.hasReached(int,int)" + INDEX,
        "public int Sealhouse.traps(char) throws java.lang.IllegalArgumentException",
        "public long Sealhouse.checksum()",
        "public float Sealhouse.rightShare()",
        "public double Sealhouse.meanReach()",
        "public boolean Sealhouse.isSound()",
    };
    private static final String[] FORBIDDEN = {
        "->", "::", "finally", "catch", "synchronized", "assert", "instanceof", "System.", "Math.", "switch",
        "equals", "hashCode", "toString", "lambda", "static {", "protected", "transient", "volatile", "native",
    };

    private FaceTest() {
    }

    public static void main(String[] args) throws IOException {
        face();
        members();
        source();
        CHECK.end();
    }

    private static void face() {
        Set<String> due = new TreeSet<>(Set.of(FACE));
        Set<String> got = new TreeSet<>();
        for (Method m : Sealhouse.class.getDeclaredMethods()) {
            if (!Modifier.isPrivate(m.getModifiers())) {
                got.add(m.toString());
            }
        }
        CHECK.same("the methods", got, due);
        CHECK.same("the class", Modifier.toString(Sealhouse.class.getModifiers()), "public final");
        Constructor<?>[] constructors = Sealhouse.class.getDeclaredConstructors();
        CHECK.same("constructors", constructors.length, 1);
        CHECK.same("the constructor", constructors[0].toString(), "public Sealhouse()");
        CHECK.same("interfaces", Sealhouse.class.getInterfaces().length, 0);
        CHECK.same("the class above", Sealhouse.class.getSuperclass(), Object.class);
    }

    private static void members() {
        Set<String> publicNames = new TreeSet<>();
        for (Method m : Sealhouse.class.getMethods()) {
            publicNames.add(m.getName());
        }
        fields(Sealhouse.class);
        for (Method m : Sealhouse.class.getDeclaredMethods()) {
            CHECK.no("a private " + m.getName(),
                    Modifier.isPrivate(m.getModifiers()) && publicNames.contains(m.getName()));
        }
        Class<?>[] inside = Sealhouse.class.getDeclaredClasses();
        CHECK.yes("at most twelve classes", inside.length <= 11);
        for (Class<?> c : inside) {
            CHECK.yes(c + " is private and static",
                    Modifier.isPrivate(c.getModifiers()) && Modifier.isStatic(c.getModifiers()));
            fields(c);
            for (Method m : c.getDeclaredMethods()) {
                CHECK.no(c + " has a " + m.getName(), publicNames.contains(m.getName()));
                CHECK.yes("at most seven parameters", m.getParameterCount() <= 7);
            }
        }
    }

    private static void fields(Class<?> c) {
        int count = 0;
        for (Field f : c.getDeclaredFields()) {
            boolean constant = Modifier.isStatic(f.getModifiers());
            count += constant ? 0 : 1;
            CHECK.yes(f + " is final", !constant || Modifier.isFinal(f.getModifiers()));
            CHECK.yes(f + " is private", c != Sealhouse.class || Modifier.isPrivate(f.getModifiers()));
        }
        CHECK.yes("at most twenty fields in " + c, count <= 20);
    }

    private static void source() throws IOException {
        String text = Files.readString(Path.of("src/main/java/Sealhouse.java"));
        String code = text.replaceAll("(?s)/\\*.*?\\*/", "").replaceAll("//.*", "").replaceAll("\"[^\"]*\"", "\"\"");
        for (String word : FORBIDDEN) {
            CHECK.no("the source has " + word, code.contains(word));
        }
        for (String line : code.split("\n")) {
            if (line.startsWith("import")) {
                CHECK.same("an import", line, "import java.util.NoSuchElementException;");
            }
            if (line.contains("throw ")) {
                CHECK.yes(line, line.strip().matches("throw new (IndexOutOfBounds|IllegalArgument|IllegalState"
                        + "|NoSuchElement)Exception\\(\"\"\\);"));
            } else if (line.contains("new ")) {
                CHECK.yes("made once: " + line, line.strip().matches("(private final .*|words|halves) = new .*"));
            }
            CHECK.no("an operator on texts: " + line, line.contains("\" +") || line.contains("+ \""));
        }
        CHECK.yes("signs 1 to 127 alone", text.chars().allMatch(c -> c > 0 && c < 128));
    }
}
