import java.lang.reflect.Constructor;
import java.lang.reflect.Field;
import java.lang.reflect.Method;
import java.lang.reflect.Modifier;
import java.util.Set;
import java.util.TreeSet;

/** The public face: what the document lists is there, and nothing else can be seen from outside. */
public final class FaceTest {
    private static final Due due = new Due();

    public static void main(String[] args) throws ReflectiveOperationException {
        due.holds("public final", Modifier.isPublic(modifiers()) && Modifier.isFinal(modifiers()));
        due.holds("no nested class", PaethFilter.class.getDeclaredClasses().length == 0);
        due.holds("no parent but Object", PaethFilter.class.getSuperclass() == Object.class);
        due.holds("no interface", PaethFilter.class.getInterfaces().length == 0);
        oneConstructor();
        methodsOfTheDocument();
        fieldsArePrivate();
        rowIsEightBytes("prev", 8);
        rowIsEightBytes("cur", 0);
        due.end();
    }

    private static int modifiers() {
        return PaethFilter.class.getModifiers();
    }

    private static void oneConstructor() {
        Constructor<?>[] all = PaethFilter.class.getDeclaredConstructors();
        due.holds("one constructor", all.length == 1);
        due.holds("it is public", Modifier.isPublic(all[0].getModifiers()));
        due.holds("it takes nothing", all[0].getParameterCount() == 0);
    }

    private static void methodsOfTheDocument() {
        Set<String> seen = new TreeSet<>();
        for (Method method : PaethFilter.class.getDeclaredMethods()) {
            if (!Modifier.isPrivate(method.getModifiers())) {
                seen.add(method.toString());
            }
        }
        Set<String> want = Set.of(
            "public int PaethFilter.filter(int,int)",
            "public int PaethFilter.unfilter(int,int)",
            "public int PaethFilter.nextRow()",
            "public int PaethFilter.peek(int)");
        due.holds("methods " + seen + " are those of the document", seen.equals(want));
    }

    private static void fieldsArePrivate() {
        for (Field field : PaethFilter.class.getDeclaredFields()) {
            due.holds(field + " is private", Modifier.isPrivate(field.getModifiers()));
        }
    }

    private static void rowIsEightBytes(String name, int firstPlace) throws ReflectiveOperationException {
        Field field = PaethFilter.class.getDeclaredField(name);
        field.setAccessible(true);
        due.holds(name + " is a byte[]", field.getType() == byte[].class);
        byte[] row = (byte[]) field.get(Rows.laid(Rows.mixed()));
        due.is("length of " + name, row.length, 8);
        for (int k = 0; k < 8; k++) {
            due.is(name + "[" + k + "]", row[k] & 0xFF, Rows.mixed()[firstPlace + k]);
        }
    }
}
