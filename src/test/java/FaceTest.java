import java.lang.reflect.Constructor;
import java.lang.reflect.Field;
import java.lang.reflect.Method;
import java.lang.reflect.Modifier;
import java.util.Arrays;
import java.util.TreeSet;

/** The public face: just the members that the document lists, all else private. */
public final class FaceTest {
    public static void main(String[] args) {
        Due.same("BAD", TourSolver.BAD, -1);
        Due.same("the class", Modifier.toString(TourSolver.class.getModifiers()), "public final");
        Due.same("nested classes", TourSolver.class.getDeclaredClasses().length, 0);
        members();
        fieldTypes();
        Due.end();
    }

    private static void members() {
        TreeSet<String> open = new TreeSet<>();
        TreeSet<String> openNames = new TreeSet<>();
        TreeSet<String> hiddenNames = new TreeSet<>();
        for (Constructor<?> c : TourSolver.class.getDeclaredConstructors()) {
            open.add(c.toString());
        }
        for (Method m : TourSolver.class.getDeclaredMethods()) {
            if (Modifier.isPrivate(m.getModifiers())) {
                hiddenNames.add(m.getName());
            } else {
                open.add(m.toString().replace("TourSolver.", ""));
                openNames.add(m.getName());
            }
        }
        for (Field f : TourSolver.class.getDeclaredFields()) {
            if (!Modifier.isPrivate(f.getModifiers())) {
                open.add(f.toString().replace("TourSolver.", ""));
            }
        }
        TreeSet<String> listed = new TreeSet<>(Arrays.asList(
            "public static final int BAD",
            "public TourSolver(int)",
            "public boolean road(int,int,int)",
            "public int shortest()",
            "public int town(int)",
            "public int trips()",
            "public int using(int,int)",
            "public int avoiding(int,int)",
            "public int walk(int,int)",
            "public int reach()",
            "public int net()",
            "public int shift(int,int)"));
        Due.same("members that are not private", open.toString(), listed.toString());
        hiddenNames.retainAll(openNames);
        Due.same("private methods with the name of a public one", hiddenNames.toString(), "[]");
    }

    private static void fieldTypes() {
        for (Field f : TourSolver.class.getDeclaredFields()) {
            Class<?> type = f.getType();
            boolean isStatic = Modifier.isStatic(f.getModifiers());
            if (isStatic) {
                Due.yes(f + " is a final int or long", Modifier.isFinal(f.getModifiers())
                    && (type == int.class || type == long.class));
            }
            Class<?> element = type.isArray() ? type.getComponentType() : type;
            Due.yes(f + " is a number, a boolean or a flat array", element.isPrimitive()
                && element != float.class && element != double.class);
        }
    }
}
