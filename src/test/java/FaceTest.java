import java.lang.reflect.Field;
import java.lang.reflect.Method;
import java.lang.reflect.Modifier;
import java.util.TreeSet;

/** The public face: just what the document lists, and the four constants. */
public final class FaceTest {
    private static final String[] METHODS = {"kind 2", "wall 2", "flag 2", "cart 2", "card 4", "damage 2", "phase 0",
        "round 0", "cellOf 2", "cartOf 2", "cardOf 3", "turn 1", "would 3", "best 3", "steps 2", "count 1", "undo 0",
        "type 1", "clearText 0", "fault 1", "play 0"};

    public static void main(String[] args) throws Exception {
        Class<?> face = LockedCarts.class;
        Check.due("modifiers", face.getModifiers(), Modifier.PUBLIC | Modifier.FINAL);
        Check.same("superclass", face.getSuperclass().getName(), "java.lang.Object");
        Check.due("interfaces", face.getInterfaces().length, 0);
        Check.due("constructors", face.getDeclaredConstructors().length, 1);
        Check.due("public constructors", face.getConstructors().length, 1);
        Check.due("its parameters", face.getConstructors()[0].getParameterCount(), 0);
        TreeSet<String> due = new TreeSet<>();
        for (String method : METHODS) {
            due.add("int " + method);
        }
        TreeSet<String> open = new TreeSet<>();
        for (Method method : face.getDeclaredMethods()) {
            if (!Modifier.isPrivate(method.getModifiers())) {
                open.add(method.getReturnType() + " " + method.getName() + " " + method.getParameterCount());
                Check.due("modifiers of " + method.getName(), method.getModifiers(), Modifier.PUBLIC);
                for (Class<?> parameter : method.getParameterTypes()) {
                    Check.same("a parameter of " + method.getName(), parameter.getName(), "int");
                }
            }
        }
        Check.same("methods", open.toString(), due.toString());
        int constants = 0;
        for (Field field : face.getDeclaredFields()) {
            if (!Modifier.isPrivate(field.getModifiers())) {
                constants++;
                int all = Modifier.PUBLIC | Modifier.STATIC | Modifier.FINAL;
                Check.due("modifiers of " + field.getName(), field.getModifiers(), all);
            }
        }
        Check.due("constants", constants, 4);
        Check.due("INVALID_ARGUMENT", face.getField("INVALID_ARGUMENT").getInt(null), -1000001);
        Check.due("NOT_POSSIBLE", face.getField("NOT_POSSIBLE").getInt(null), -1000002);
        Check.due("LIMIT_REACHED", face.getField("LIMIT_REACHED").getInt(null), -1000003);
        Check.due("NOT_FOUND", face.getField("NOT_FOUND").getInt(null), -1000004);
        Check.finish();
    }
}
