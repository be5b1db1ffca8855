import java.io.IOException;
import java.lang.reflect.Constructor;
import java.lang.reflect.Field;
import java.lang.reflect.Method;
import java.lang.reflect.Modifier;
import java.nio.file.Files;
import java.nio.file.Path;
import java.util.Arrays;
import java.util.Set;
import java.util.TreeSet;

/** The public face of the document, and the rules of LANGUAGE.md that can be seen from outside. */
public final class FaceTest {
    private static final String[] FACE = {
        "int spelling(int,long,int) IllegalArgumentException", "int word(long,long,int,int) IllegalArgumentException",
        "int ending(long,int,int,int) IllegalArgumentException", "int price(int,int) IllegalArgumentException",
        "int step(int,int,int) IllegalArgumentException", "int type(int) IllegalArgumentException",
        "int typed(int) NoSuchElementException", "int cost() ", "int parts() ", "int part(int,int) NoSuchElementException",
        "int sign(int) NoSuchElementException", "int choices(int) NoSuchElementException",
        "int choice(int,int,int) NoSuchElementException", "void choose(int,int) NoSuchElementException",
        "int setBreak(int,int) IllegalArgumentException", "int free() ", "int empty() ", "boolean back() ", "int take() ",
        "int unlearn() ", "int count(int) NoSuchElementException", "int pairs(int,int) NoSuchElementException",
        "int about(int) NoSuchElementException"};
    /** What the rules leave out and a text can show. */
    private static final String[] LEFT_OUT = {
        "->", "::", "catch", "finally", "Exact(", "synchronized", "assert ", "package ", "protected ", "System.out", "Random",
        "@SuppressWarnings", "double ", "float "};

    private FaceTest() {
    }

    private static String names(Class<?>[] types) {
        StringBuilder told = new StringBuilder();
        for (Class<?> type : types) {
            told.append(told.length() == 0 ? "" : ",").append(type.getSimpleName());
        }
        return told.toString();
    }

    private static String face(Method m) {
        return m.getReturnType().getSimpleName() + " " + m.getName() + "(" + names(m.getParameterTypes()) + ") "
                + names(m.getExceptionTypes());
    }

    private static void theFace() {
        Class<?> c = SoundLine.class;
        Check.due("public and final", c.getModifiers() & (Modifier.PUBLIC | Modifier.FINAL), Modifier.PUBLIC | Modifier.FINAL);
        Set<String> seen = new TreeSet<>();
        for (Method m : c.getDeclaredMethods()) {
            if (!Modifier.isPrivate(m.getModifiers())) {
                seen.add(face(m));
            }
        }
        Set<String> due = new TreeSet<>(Arrays.asList(FACE));
        Check.due("the methods of the face " + seen, seen.equals(due) ? 1 : 0, 1);
        Constructor<?>[] constructors = c.getDeclaredConstructors();
        Check.due("constructors", constructors.length, 1);
        Check.due("it is public", Modifier.isPublic(constructors[0].getModifiers()) ? 1 : 0, 1);
        Check.due("it takes nothing", constructors[0].getParameterCount(), 0);
        for (Field f : c.getDeclaredFields()) {
            boolean constant = f.getName().equals("NONE");
            Check.due(f.getName() + " is private", Modifier.isPrivate(f.getModifiers()) ? 1 : 0, constant ? 0 : 1);
        }
    }

    private static void members(Class<?> c, Set<String> faceNames) {
        int fields = 0;
        for (Field f : c.getDeclaredFields()) {
            boolean isStatic = Modifier.isStatic(f.getModifiers());
            fields += isStatic ? 0 : 1;
            Check.due(f + " static and not final", isStatic && !Modifier.isFinal(f.getModifiers()) ? 1 : 0, 0);
        }
        Check.due(c + " has more than 20 fields", fields > 20 ? 1 : 0, 0);
        for (Method m : c.getDeclaredMethods()) {
            Check.due(m + " has more than 7 parameters", m.getParameterCount() > 7 ? 1 : 0, 0);
            if (c != SoundLine.class || Modifier.isPrivate(m.getModifiers())) {
                Check.due(m + " has a public one's name", faceNames.contains(m.getName()) ? 1 : 0, 0);
            }
        }
    }

    private static void theClasses() {
        Set<String> faceNames = new TreeSet<>();
        for (String line : FACE) {
            faceNames.add(line.substring(line.indexOf(' ') + 1, line.indexOf('(')));
        }
        members(SoundLine.class, faceNames);
        Class<?>[] inside = SoundLine.class.getDeclaredClasses();
        Check.due("more than 12 classes", inside.length + 1 > 12 ? 1 : 0, 0);
        for (Class<?> c : inside) {
            Check.due(c + " is static", Modifier.isStatic(c.getModifiers()) ? 1 : 0, 1);
            Check.due(c + " is public", Modifier.isPublic(c.getModifiers()) ? 1 : 0, 0);
            members(c, faceNames);
        }
    }

    private static void theText() throws IOException {
        Path file = Path.of("src/main/java/SoundLine.java");
        String text = Files.readString(file).replaceAll("(?s)/\\*.*?\\*/", "").replaceAll("//[^\n]*", "");
        for (String word : LEFT_OUT) {
            Check.due("the program has " + word, text.contains(word) ? 1 : 0, 0);
        }
        for (String line : text.split("\n")) {
            if (line.startsWith("import")) {
                boolean listed = line.equals("import java.util.Arrays;") || line.equals("import java.util.NoSuchElementException;");
                Check.due(line, listed ? 1 : 0, 1);
            }
        }
    }

    public static void main(String[] args) throws IOException {
        theFace();
        theClasses();
        theText();
        Check.end();
    }
}
