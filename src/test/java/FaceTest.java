import java.io.IOException;
import java.lang.reflect.Constructor;
import java.lang.reflect.Field;
import java.lang.reflect.Method;
import java.lang.reflect.Modifier;
import java.nio.charset.StandardCharsets;
import java.nio.file.Files;
import java.nio.file.Path;
import java.util.Arrays;
import java.util.Set;
import java.util.TreeSet;

/** The public face, letter by letter, and what of LANGUAGE.md can be seen from outside the code. */
public final class FaceTest {
    private static final String I = "java.lang.IndexOutOfBoundsException";
    private static final String A = "java.lang.IllegalArgumentException";
    private static final String S = "java.lang.IllegalStateException";
    private static final String SHOT = "int,int,int,boolean";
    private static final String SHOT_THROWS = I + "," + A + "," + S;

    private static final String[] FACE = {
        "boolean block(int,int,boolean) " + I,
        "int period(" + SHOT + ") " + SHOT_THROWS,
        "int periodAnew(" + SHOT + ") " + SHOT_THROWS,
        "int bounces(" + SHOT + ") " + SHOT_THROWS,
        "int touched(" + SHOT + ") " + SHOT_THROWS,
        "int bounce(" + SHOT + ",int) " + SHOT_THROWS,
        "int state(" + SHOT + ",int) " + SHOT_THROWS,
        "int paths() ",
        "float mean() ",
        "int lamp(int,int) " + I + "," + S,
        "boolean sees(int,int,int,int) " + I,
        "boolean seesAnew(int,int,int,int) " + I,
        "int lit() ",
        "float share() ",
        "int surface(int) " + A,
        "int glue(int,int,boolean) " + I,
        "int shear() ",
        "int turn() ",
        "int square(int,int) " + I + "," + A,
        "int count(int) " + A,
        "int genus() " + S,
        "int code() ",
        "int kin() ",
        "int interval(int) " + A + "," + S,
        "int swap(int,int) " + I,
        "int induce() " + S,
        "int told(int,int) " + I + "," + A,
        "int image(int) " + I,
        "int back(int) " + I,
        "int cycle(int) " + I,
        "int cycles() ",
        "int apart() ",
    };

    /** Words that LANGUAGE.md leaves out, or that the class can do without. */
    private static final String[] WORDS = {
        "import ", "package ", "catch", "finally", "synchronized", "assert ", "->", "::", "static {",
        "native", "volatile", "transient", "Object", "Exact(", "currentTimeMillis", "nanoTime", "Random",
        "Thread", "System.", "double", "NaN", "hashCode", "equals",
    };

    private FaceTest() {
    }

    private static String names(Class<?>[] types) {
        StringBuilder text = new StringBuilder();
        for (Class<?> type : types) {
            text.append(text.length() == 0 ? "" : ",").append(type.getName());
        }
        return text.toString();
    }

    private static void methods() {
        Set<String> got = new TreeSet<>();
        Set<String> publicNames = new TreeSet<>();
        for (Method method : Billiardry.class.getDeclaredMethods()) {
            if (!Modifier.isPrivate(method.getModifiers())) {
                got.add(method.getReturnType().getName() + " " + method.getName()
                    + "(" + names(method.getParameterTypes()) + ") " + names(method.getExceptionTypes()));
                Check.same(method.getName() + " is public and nothing else", method.getModifiers(), Modifier.PUBLIC);
                publicNames.add(method.getName());
            }
        }
        Check.sameText("the face", got.toString(), new TreeSet<>(Arrays.asList(FACE)).toString());
        for (Class<?> inside : Billiardry.class.getDeclaredClasses()) {
            for (Method method : inside.getDeclaredMethods()) {
                boolean isTwice = Modifier.isPrivate(method.getModifiers()) && publicNames.contains(method.getName());
                Check.same("private " + method.getName() + " bears a public name", isTwice, false);
            }
        }
    }

    private static void theRest() throws ReflectiveOperationException {
        int modifiers = Billiardry.class.getModifiers();
        Check.same("the class is public and final", modifiers, Modifier.PUBLIC | Modifier.FINAL);
        Constructor<?>[] constructors = Billiardry.class.getDeclaredConstructors();
        Check.same("constructors", constructors.length, 1);
        Check.same("the constructor is public", constructors[0].getModifiers(), Modifier.PUBLIC);
        Check.same("the constructor has no arguments", constructors[0].getParameterCount(), 0);
        String[] sides = {"WEST", "SOUTH", "EAST", "NORTH"};
        for (int side = 0; side < 4; side++) {
            Check.same(sides[side], Billiardry.class.getField(sides[side]).getInt(null), side);
        }
        Check.same("public fields", Billiardry.class.getFields().length, 4);
        for (Field field : Billiardry.class.getDeclaredFields()) {
            int is = field.getModifiers();
            Check.same(field.getName() + " is public or private", Modifier.isPublic(is) || Modifier.isPrivate(is), true);
            Check.same(field.getName() + " is final", Modifier.isFinal(is), true);
        }
        for (Class<?> inside : Billiardry.class.getDeclaredClasses()) {
            int is = inside.getModifiers();
            Check.same(inside.getName() + " is static and private", Modifier.isStatic(is) && Modifier.isPrivate(is), true);
        }
    }

    private static void language() throws IOException {
        String text = Files.readString(Path.of("src/main/java/Billiardry.java"), StandardCharsets.ISO_8859_1);
        for (int k = 0; k < text.length(); k++) {
            if (text.charAt(k) > 126 || (text.charAt(k) < 32 && text.charAt(k) != '\n')) {
                Check.same("sign " + k + " of the program", text.charAt(k), ' ');
            }
        }
        for (String word : WORDS) {
            Check.same("the program has '" + word + "'", text.contains(word), false);
        }
        int length = 0;
        for (String line : text.split("\n")) {
            length = line.isEmpty() ? 0 : length + 1;
            Check.same("lines without an empty one: " + line, length <= 60, true);
            Check.same("a short line: " + line, line.length() <= 120, true);
        }
    }

    public static void main(String[] args) throws ReflectiveOperationException, IOException {
        methods();
        theRest();
        language();
        Check.end("FaceTest");
    }
}
