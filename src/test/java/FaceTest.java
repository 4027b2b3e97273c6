import java.lang.reflect.Constructor;
import java.lang.reflect.Executable;
import java.lang.reflect.Field;
import java.lang.reflect.Method;
import java.lang.reflect.Modifier;
import java.util.Arrays;
import java.util.TreeSet;

/** The public face, and rules 1 and 5 of the language about what else may be seen or kept. */
public final class FaceTest {
    private static final String[] FACE = {
        "boolean type(char)",
        "int create(int,boolean) IllegalArgumentException IllegalStateException UnsupportedOperationException",
        "int write(int,int,int,int) IllegalArgumentException IllegalStateException UnsupportedOperationException",
        "int cut(int,int) IllegalArgumentException IllegalStateException",
        "int remove(int) IllegalArgumentException IllegalStateException",
        "void move(int,int) IllegalArgumentException IllegalStateException",
        "boolean fail(int)",
        "int mount() IllegalStateException",
        "boolean on()",
        "int find(int)",
        "int record(int,int)",
        "int read(int,int)",
        "int run(int,int,int)",
        "int free()",
        "int at(int)",
    };

    public static void main(String[] args) {
        int modifiers = FixupVolume.class.getModifiers();
        Check.yes("the class is public", Modifier.isPublic(modifiers));
        Check.yes("the class is final", Modifier.isFinal(modifiers));
        methods();
        fields();
        constructors();
        classesInside();
        Check.same("NONE", FixupVolume.NONE, -1);
        Check.end();
    }

    private static void methods() {
        TreeSet<String> shown = new TreeSet<>();
        TreeSet<String> publicNames = new TreeSet<>();
        TreeSet<String> privateNames = new TreeSet<>();
        for (Method m : FixupVolume.class.getDeclaredMethods()) {
            if (Modifier.isPrivate(m.getModifiers())) {
                privateNames.add(m.getName());
            } else {
                publicNames.add(m.getName());
                shown.add(m.getReturnType() + " " + m.getName() + parameters(m) + thrown(m));
                Check.yes(m.getName() + " is public", Modifier.isPublic(m.getModifiers()));
            }
        }
        TreeSet<String> due = new TreeSet<>(Arrays.asList(FACE));
        for (String text : due) {
            Check.yes("the face has " + text, shown.contains(text));
        }
        Check.same("methods that can be seen", shown.size(), due.size());
        privateNames.retainAll(publicNames);
        Check.same("private methods that bear a public one's name", privateNames.size(), 0);
    }

    private static String parameters(Executable e) {
        StringBuilder text = new StringBuilder();
        for (Class<?> type : e.getParameterTypes()) {
            text.append(text.length() == 0 ? "" : ",").append(type);
        }
        return "(" + text + ")";
    }

    private static String thrown(Executable e) {
        TreeSet<String> names = new TreeSet<>();
        for (Class<?> type : e.getExceptionTypes()) {
            names.add(" " + type.getSimpleName());
        }
        return String.join("", names);
    }

    private static void fields() {
        for (Field f : FixupVolume.class.getDeclaredFields()) {
            boolean isFace = f.getName().equals("NONE");
            Check.yes(f.getName(), isFace == Modifier.isPublic(f.getModifiers()));
            Check.yes(f.getName(), isFace != Modifier.isPrivate(f.getModifiers()));
            Check.yes(f.getName(), !Modifier.isStatic(f.getModifiers()) || Modifier.isFinal(f.getModifiers()));
        }
    }

    private static void constructors() {
        Constructor<?>[] all = FixupVolume.class.getDeclaredConstructors();
        Check.same("constructors", all.length, 1);
        Check.yes("public", Modifier.isPublic(all[0].getModifiers()));
        Check.same("without parameters", all[0].getParameterCount(), 0);
    }

    private static void classesInside() {
        for (Class<?> inside : FixupVolume.class.getDeclaredClasses()) {
            Check.yes(inside + " is static", Modifier.isStatic(inside.getModifiers()));
            Check.no(inside + " is public", Modifier.isPublic(inside.getModifiers()));
            Check.no(inside + " is protected", Modifier.isProtected(inside.getModifiers()));
        }
    }
}
