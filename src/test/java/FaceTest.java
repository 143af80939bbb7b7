import java.io.IOException;
import java.lang.reflect.Constructor;
import java.lang.reflect.Field;
import java.lang.reflect.Method;
import java.lang.reflect.Modifier;
import java.nio.charset.StandardCharsets;
import java.nio.file.Files;
import java.nio.file.Path;
import java.util.Arrays;
import java.util.Set;
import java.util.TreeSet;

/** The public face, letter by letter, and what of LANGUAGE.md can be seen from outside the code. */
public final class FaceTest {
    private static final String I = "java.lang.IndexOutOfBoundsException";
    private static final String A = "java.lang.IllegalArgumentException";
    private static final String S = "java.lang.IllegalStateException";
    private static final String SHOT = "int,int,int,boolean";
    private static final String SHOT_THROWS = I + "," + A + "," + S;

    private static final String[] FACE = {
        "boolean block(int,int,boolean) " + I,
        "int period(" + SHOT + ") " + SHOT_THROWS,
        "int periodAnew(" + SHOT + ") " + SHOT_THROWS,
        "int bounces(" + SHOT + ") " + SHOT_THROWS,
        "int touched(" + SHOT + ") " + SHOT_THROWS,
        "int bounce(" + SHOT + ",int) " + SHOT_THROWS,
        "int state(" + SHOT + ",int) " + SHOT_THROWS,
        "int paths() ",
        "float mean() ",
        "int lamp(int,int) " + I + "," + S,
        "boolean sees(int,int,int,int) " + I,
        "boolean seesAnew(int,int,int,int) " + I,
        "int lit() ",
        "float share() ",
        "int surface(int) " + A,
        "int glue(int,int,boolean) " + I,
        "int shear() ",
        "int turn() ",
        "int square(int,int) " + I + "," + A,
        "int count(int) " + A,
        "int genus() " + S,
        "int code() ",
        "int kin() ",
        "int interval(int) " + A + "," + S,
        "int swap(int,int) " + I,
        "int induce() " + S,
        "int told(int,int) " + I + "," + A,
        "int image(int) " + I,
        "int back(int) " + I,
        "int cycle(int) " + I,
        "int cycles() ",
        "int apart() ",
    };

    /** Words that LANGUAGE.md leaves out, wherever they stand in the code. */
    private static final String[] WORDS = {
        "package ", "finally", "synchronized", "assert ", "::", "static {", "Exact(", "getMessage", "NaN",
        "currentTimeMillis", "nanoTime", "Random", "Thread", "Throwable", "catch (Exception", "System.out",
        "NullPointerException", "ClassCastException", "NegativeArraySizeException", "ArrayStoreException",
        "ArrayIndexOutOfBoundsException", "StringIndexOutOfBoundsException", "StackOverflowError",
    };

    private FaceTest() {
    }

    private static String names(Class<?>[] types) {
        StringBuilder text = new StringBuilder();
        for (Class<?> type : types) {
            text.append(text.length() == 0 ? "" : ",").append(type.getName());
        }
        return text.toString();
    }

    private static void methods() {
        Set<String> got = new TreeSet<>();
        Set<String> publicNames = new TreeSet<>();
        for (Method method : Billiardry.class.getDeclaredMethods()) {
            int is = method.getModifiers();
            if (!Modifier.isPrivate(is) && !method.isSynthetic()) {
                got.add(method.getReturnType().getName() + " " + method.getName()
                    + "(" + names(method.getParameterTypes()) + ") " + names(method.getExceptionTypes()));
                boolean isOfObjects = Modifier.isPublic(is) && !Modifier.isStatic(is);
                Check.same(method.getName() + " is public, and not static", isOfObjects, true);
                publicNames.add(method.getName());
            }
        }
        Check.sameText("the face", got.toString(), new TreeSet<>(Arrays.asList(FACE)).toString());
        noPrivateMethodBears(publicNames, Billiardry.class);
        for (Class<?> inside : Billiardry.class.getDeclaredClasses()) {
            noPrivateMethodBears(publicNames, inside);
        }
    }

    private static void noPrivateMethodBears(Set<String> publicNames, Class<?> in) {
        for (Method method : in.getDeclaredMethods()) {
            boolean bears = Modifier.isPrivate(method.getModifiers()) && publicNames.contains(method.getName());
            Check.same("the private " + method.getName() + " bears a public name", bears, false);
        }
    }

    private static void theRest() throws ReflectiveOperationException {
        int modifiers = Billiardry.class.getModifiers();
        Check.same("the class is public and final", modifiers, Modifier.PUBLIC | Modifier.FINAL);
        Constructor<?>[] constructors = Billiardry.class.getDeclaredConstructors();
        Check.same("constructors", constructors.length, 1);
        Check.same("the constructor is public", constructors[0].getModifiers(), Modifier.PUBLIC);
        Check.same("the constructor has no arguments", constructors[0].getParameterCount(), 0);
        String[] sides = {"WEST", "SOUTH", "EAST", "NORTH"};
        for (int side = 0; side < 4; side++) {
            Field field = Billiardry.class.getField(sides[side]);
            Check.same(sides[side], field.getInt(null), side);
            Check.sameText(sides[side] + " is an int", field.getType().getName(), "int");
            Check.same(sides[side] + " is final", Modifier.isFinal(field.getModifiers()), true);
        }
        Check.same("public fields", Billiardry.class.getFields().length, 4);
        fields(Billiardry.class);
        for (Class<?> inside : Billiardry.class.getDeclaredClasses()) {
            int is = inside.getModifiers();
            Check.same(inside.getName() + " is seen", Modifier.isPublic(is) || Modifier.isProtected(is), false);
            fields(inside);
        }
    }

    private static void fields(Class<?> of) {
        for (Field field : of.getDeclaredFields()) {
            int is = field.getModifiers();
            boolean isState = Modifier.isStatic(is) && !Modifier.isFinal(is);
            Check.same(field.getName() + " is static and not final", isState, false);
            if (of == Billiardry.class) {
                boolean isSeen = !Modifier.isPublic(is) && !Modifier.isPrivate(is);
                Check.same(field.getName() + " is neither public nor private", isSeen, false);
            }
        }
    }

    private static void language() throws IOException {
        String text = Files.readString(Path.of("src/main/java/Billiardry.java"), StandardCharsets.ISO_8859_1);
        String code = text.replaceAll("(?s)/\\*.*?\\*/", " ").replaceAll("//[^\n]*", " ");
        for (int k = 0; k < code.length(); k++) {
            Check.same("sign " + k + " is of 1 to 127", code.charAt(k) >= 1 && code.charAt(k) <= 127, true);
        }
        for (String word : WORDS) {
            Check.same("the program has '" + word + "'", code.contains(word), false);
        }
    }

    public static void main(String[] args) throws ReflectiveOperationException, IOException {
        methods();
        theRest();
        language();
        Check.end("FaceTest");
    }
}
