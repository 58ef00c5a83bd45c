import java.lang.reflect.Constructor;
import java.lang.reflect.Field;
import java.lang.reflect.Method;
import java.lang.reflect.Modifier;
import java.util.HashSet;
import java.util.Set;
import java.util.TreeSet;

/** The public face is that of the document and no more (rule 1 of LANGUAGE.md). */
public final class FaceTest {
    private static final String[] FACE = {
        "int type(long,int)",
        "int erase()",
        "int compile()",
        "int named()",
        "void optimise(boolean)",
        "int steps()",
        "int step(int,int) IndexOutOfBoundsException IllegalArgumentException",
        "int slots()",
        "void voices(int) IllegalArgumentException",
        "int note(int,int) IllegalArgumentException",
        "void off(int) IndexOutOfBoundsException IllegalStateException",
        "boolean active(int) IndexOutOfBoundsException",
        "void knob(int,int) IndexOutOfBoundsException",
        "void run(int) IllegalArgumentException IllegalStateException",
        "int out(int) IndexOutOfBoundsException",
        "int tap(int,int) IndexOutOfBoundsException NoSuchElementException",
        "void reset()",
    };

    public static void main(String[] args) {
        methodsAreThoseOfTheDocument();
        nothingElseCanBeSeen();
        Due.end("FaceTest");
    }

    private static void methodsAreThoseOfTheDocument() {
        Set<String> got = new TreeSet<>();
        for (Method m : PatchVoices.class.getDeclaredMethods()) {
            if (!Modifier.isPrivate(m.getModifiers())) {
                got.add(faceOf(m));
                Due.is(m + " is public", Modifier.isPublic(m.getModifiers()), true);
            }
        }
        for (String want : FACE) {
            Due.is("there is " + want, got.remove(want), true);
        }
        for (String other : got) {
            Due.is("there is " + other, true, false);
        }
    }

    private static String faceOf(Method m) {
        StringBuilder face = new StringBuilder();
        face.append(m.getReturnType().getSimpleName()).append(' ').append(m.getName()).append('(');
        for (int i = 0; i < m.getParameterCount(); i++) {
            face.append(i == 0 ? "" : ",").append(m.getParameterTypes()[i].getSimpleName());
        }
        face.append(')');
        for (Class<?> e : m.getExceptionTypes()) {
            face.append(' ').append(e.getSimpleName());
        }
        return face.toString();
    }

    private static void nothingElseCanBeSeen() {
        Due.is("the class is public and final",
                PatchVoices.class.getModifiers(), Modifier.PUBLIC | Modifier.FINAL);
        for (Field f : PatchVoices.class.getDeclaredFields()) {
            boolean isNone = f.getName().equals("NONE");
            Due.is(f + " is private", Modifier.isPrivate(f.getModifiers()), !isNone);
        }
        Due.is("NONE", PatchVoices.NONE, -1);
        Constructor<?>[] made = PatchVoices.class.getDeclaredConstructors();
        Due.is("constructors", made.length, 1);
        Due.is("constructor is public", Modifier.isPublic(made[0].getModifiers()), true);
        Due.is("constructor takes nothing", made[0].getParameterCount(), 0);
        noPrivateMethodBearsAPublicName();
    }

    private static void noPrivateMethodBearsAPublicName() {
        Set<String> names = new HashSet<>();
        for (String face : FACE) {
            names.add(face.substring(face.indexOf(' ') + 1, face.indexOf('(')));
        }
        for (Class<?> inner : PatchVoices.class.getDeclaredClasses()) {
            Due.is(inner + " is static", Modifier.isStatic(inner.getModifiers()), true);
            for (Method m : inner.getDeclaredMethods()) {
                Due.is(m + " bears a public name", names.contains(m.getName()), false);
            }
        }
        for (Method m : PatchVoices.class.getDeclaredMethods()) {
            boolean hidden = Modifier.isPrivate(m.getModifiers());
            Due.is(m + " bears a public name", hidden && names.contains(m.getName()), false);
        }
    }
}
