import java.lang.reflect.Constructor;
import java.lang.reflect.Field;
import java.lang.reflect.Method;
import java.lang.reflect.Modifier;
import java.util.Set;
import java.util.TreeSet;

/** The public face, and what LANGUAGE.md says of the members. */
public final class FaceTest {
    public static void main(String[] args) {
        publicFaceIsTheDocuments();
        allElseIsPrivate();
        staticFieldsAreNumberConstants();
        Check.end("FaceTest");
    }

    private static void publicFaceIsTheDocuments() {
        Class<?> c = BundleAssembler.class;
        Check.due("class modifiers", Modifier.toString(c.getModifiers()), "public final");
        Check.due("constructors", c.getDeclaredConstructors().length, 1);
        Constructor<?> made = c.getDeclaredConstructors()[0];
        Check.due("constructor", made.toString(), "public BundleAssembler()");
        Set<String> want = new TreeSet<>(Set.of(
            "int emit(int,int,int,int)", "int retract()", "int clear()", "int count()",
            "int kindOf(int)", "int fieldOf(int,int)", "int setRegister(int,int)",
            "int setCell(int,int)", "int register(int)", "int cell(int)", "void restart()",
            "int run(int)", "int place()", "int over()", "int jumps()"));
        Set<String> got = new TreeSet<>();
        for (Method m : c.getDeclaredMethods()) {
            if (Modifier.isPublic(m.getModifiers())) {
                got.add(m.toString().replace("public ", "").replace("BundleAssembler.", ""));
            }
        }
        Check.due("public methods", got, want);
    }

    private static void allElseIsPrivate() {
        Class<?> c = BundleAssembler.class;
        Set<String> names = new TreeSet<>();
        for (Method m : c.getDeclaredMethods()) {
            if (Modifier.isPublic(m.getModifiers())) {
                names.add(m.getName());
            }
        }
        for (Method m : c.getDeclaredMethods()) {
            if (!Modifier.isPublic(m.getModifiers())) {
                Check.due(m + " private", Modifier.isPrivate(m.getModifiers()), true);
                Check.due(m + " named like a public one", names.contains(m.getName()), false);
            }
        }
        for (Field f : c.getDeclaredFields()) {
            Check.due(f + " private", Modifier.isPrivate(f.getModifiers()), true);
        }
        Check.due("nested classes", c.getDeclaredClasses().length, 0);
    }

    private static void staticFieldsAreNumberConstants() {
        for (Field f : BundleAssembler.class.getDeclaredFields()) {
            if (Modifier.isStatic(f.getModifiers())) {
                Check.due(f + " final", Modifier.isFinal(f.getModifiers()), true);
                boolean number = f.getType() == int.class || f.getType() == long.class;
                Check.due(f + " int or long", number, true);
            }
        }
    }
}
