import java.lang.reflect.Constructor;
import java.lang.reflect.Field;
import java.lang.reflect.Method;
import java.lang.reflect.Modifier;
import java.util.Arrays;
import java.util.TreeSet;

/** The public face: exactly the document's constants, constructor and methods, and nothing else that can be seen. */
public final class FaceTest {
    private static final String[] DUE = {
        "MIN_SIDE=1", "MAX_SIDE=16", "RASTER_STRIDE=16", "MAX_CONTOURS=256", "KIND_NONE=0", "KIND_OUTER=1",
        "KIND_HOLE=2", "NO_PARENT=-1", "INVALID=-2", "NOT_TRACED=-1", "NO_CONTOUR=-1", "REFUSED=-1", "SIDE_TOP=0",
        "SIDE_RIGHT=1", "SIDE_BOTTOM=2", "SIDE_LEFT=3",
        "public BorderTracer(int,int)",
        "public boolean BorderTracer.setPixel(int,int,int)", "public boolean BorderTracer.setRow(int,int)",
        "public int BorderTracer.getPixel(int,int)", "public int BorderTracer.trace()",
        "public int BorderTracer.contourCount()", "public int BorderTracer.contourKind(int)",
        "public int BorderTracer.contourParent(int)", "public int BorderTracer.contourStart(int)",
        "public int BorderTracer.contourLength(int)", "public int BorderTracer.contourArea(int)",
        "public boolean BorderTracer.hasEdge(int,int,int,int)", "public int BorderTracer.contourOf(int,int)",
        "public boolean BorderTracer.toggleFill(int)", "public int BorderTracer.fillAll()",
        "public int BorderTracer.getFilled(int,int)", "public boolean BorderTracer.filledEqualsBitmap()"
    };

    public static void main(String[] args) throws IllegalAccessException {
        TreeSet<String> missing = new TreeSet<>(Arrays.asList(DUE));
        missing.removeAll(seen());
        TreeSet<String> extra = seen();
        extra.removeAll(Arrays.asList(DUE));
        Check.due("members that are missing: " + missing, missing.size(), 0);
        Check.due("members that are too many: " + extra, extra.size(), 0);
        int modifiers = BorderTracer.class.getModifiers();
        Check.due("public", Modifier.isPublic(modifiers), true);
        Check.due("final", Modifier.isFinal(modifiers), true);
        Check.due("nested classes", BorderTracer.class.getDeclaredClasses().length, 0);
        Check.due("superclass", BorderTracer.class.getSuperclass().getName(), "java.lang.Object");
        Check.due("interfaces", BorderTracer.class.getInterfaces().length, 0);
        privateNamesAreTheirOwn();
        Check.finish();
    }

    private static TreeSet<String> seen() throws IllegalAccessException {
        TreeSet<String> seen = new TreeSet<>();
        for (Field field : BorderTracer.class.getDeclaredFields()) {
            boolean constant = field.toString().startsWith("public static final int ");
            if (constant) {
                seen.add(field.getName() + "=" + field.getInt(null));
            } else if (!Modifier.isPrivate(field.getModifiers())) {
                seen.add(field.toString());
            }
        }
        for (Constructor<?> constructor : BorderTracer.class.getDeclaredConstructors()) {
            seen.add(constructor.toString());
        }
        for (Method method : BorderTracer.class.getDeclaredMethods()) {
            if (!Modifier.isPrivate(method.getModifiers())) {
                seen.add(method.toString());
            }
        }
        return seen;
    }

    private static void privateNamesAreTheirOwn() {
        TreeSet<String> names = new TreeSet<>();
        for (Method method : BorderTracer.class.getMethods()) {
            names.add(method.getName());
        }
        for (Method method : BorderTracer.class.getDeclaredMethods()) {
            boolean hidden = Modifier.isPrivate(method.getModifiers());
            Check.due(method + " bears a public name", hidden && names.contains(method.getName()), false);
        }
    }
}
