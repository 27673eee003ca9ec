import java.lang.reflect.Constructor;
import java.lang.reflect.Field;
import java.lang.reflect.Method;
import java.lang.reflect.Modifier;
import java.util.Set;
import java.util.TreeSet;

/** The public face: every constant, the constructor and every method of the document, and no other visible member. */
public final class FaceTest {
    private static final Set<String> METHODS = Set.of(
        "boolean put(int)", "boolean eraseInLine(int)", "boolean setScrollRegion(int,int)",
        "boolean setCursor(int,int)", "boolean enterAlt()", "boolean leaveAlt()", "int resize(int,int)",
        "int cell(int,int)", "boolean wrapped(int)", "int cursorRow()", "int cursorCol()", "int info(int)",
        "int lineLength(int)", "int lineChar(int,int)");

    private static final Set<String> CONSTANTS = Set.of(
        "BLANK=32", "EL_TO_END=0", "EL_TO_START=1", "EL_ALL=2", "INFO_WIDTH=0", "INFO_HEIGHT=1",
        "INFO_CAPACITY=2", "INFO_SCROLLBACK=3", "INFO_ALT=4", "INFO_REGION_TOP=5", "INFO_REGION_BOTTOM=6",
        "INFO_PENDING=7", "INFO_LINES=8", "INFO_CURSOR_LINE=9", "INFO_CURSOR_OFFSET=10", "INFO_MAIN_ROW=11",
        "INFO_MAIN_COL=12");

    private static String parameters(Class<?>[] types) {
        StringBuilder text = new StringBuilder();
        for (Class<?> type : types) {
            text.append(text.length() == 0 ? "" : ",").append(type.getName());
        }
        return "(" + text + ")";
    }

    private static Set<String> visibleMethods() {
        Set<String> found = new TreeSet<>();
        for (Method m : ReflowTerminal.class.getDeclaredMethods()) {
            if (!Modifier.isPrivate(m.getModifiers())) {
                Checks.due(m.getName() + " is a plain public method", m.getModifiers(), Modifier.PUBLIC);
                found.add(m.getReturnType().getName() + " " + m.getName() + parameters(m.getParameterTypes()));
            }
        }
        return found;
    }

    private static int valueOf(Field constant) {
        try {
            return constant.getInt(null);
        } catch (IllegalAccessException hidden) {
            return -1;
        }
    }

    private static Set<String> visibleConstants() {
        Set<String> found = new TreeSet<>();
        for (Field f : ReflowTerminal.class.getDeclaredFields()) {
            if (!Modifier.isPrivate(f.getModifiers())) {
                Checks.due(f.getName() + " is a public constant", f.getModifiers(),
                    Modifier.PUBLIC | Modifier.STATIC | Modifier.FINAL);
                Checks.due("type of " + f.getName(), f.getType(), int.class);
                found.add(f.getName() + "=" + valueOf(f));
            }
        }
        return found;
    }

    private static void constants() {
        Checks.due("constants", visibleConstants(), CONSTANTS);
    }

    private static void members() {
        Class<?> face = ReflowTerminal.class;
        Checks.due("modifiers of the class", face.getModifiers(), Modifier.PUBLIC | Modifier.FINAL);
        Checks.due("methods", visibleMethods(), METHODS);
        Constructor<?>[] constructors = face.getDeclaredConstructors();
        Checks.due("number of constructors", constructors.length, 1);
        Checks.due("constructor is public", constructors[0].getModifiers(), Modifier.PUBLIC);
        Checks.due("constructor", parameters(constructors[0].getParameterTypes()), "(int,int,int)");
    }

    public static void main(String[] args) {
        Checks.sentence("Public constants", FaceTest::constants);
        Checks.sentence("The public face", FaceTest::members);
        Checks.finish();
    }
}
