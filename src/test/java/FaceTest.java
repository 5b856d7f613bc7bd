import java.lang.reflect.Constructor;
import java.lang.reflect.Field;
import java.lang.reflect.Method;
import java.lang.reflect.Modifier;
import java.util.Arrays;
import java.util.TreeSet;

/** The public face, word for word, and no other member that can be seen from outside. */
public final class FaceTest {
    private static final String IOOBE = "IndexOutOfBoundsException";
    private static final String IAE = "IllegalArgumentException";
    private static final String ISE = "IllegalStateException";

    private static final String[] METHODS = {
        "void kind(int,int,int,int,boolean) " + IOOBE + " " + IAE + " " + ISE,
        "int lot(int,int,int) " + IOOBE + " " + IAE + " " + ISE,
        "int recall(int) " + IOOBE + " " + ISE,
        "int units(int) " + IOOBE,
        "int order(int) " + IAE + " " + ISE,
        "int takt(int) " + IAE,
        "boolean fault(int) " + IOOBE + " " + ISE,
        "int takts()",
        "int whereIs(int) " + IOOBE,
        "int stationOf(int) " + IOOBE,
        "int carAt(int) " + IAE,
        "int needs(int) " + IOOBE,
        "int lacks(int) " + IOOBE,
        "int lotIn(int,int) " + IOOBE,
        "int lotByPicks(int,int) " + IOOBE,
        "int scrapped()",
        "int build(int) " + IOOBE + " " + ISE,
        "boolean sign(int,int) " + IOOBE,
        "int flash(int,int) " + IOOBE + " " + ISE,
        "int imageOf(int) " + IOOBE,
        "int versionIn(int,int) " + IOOBE,
        "int images()",
        "boolean isFit(int) " + IOOBE,
        "boolean isTested(int) " + IOOBE,
        "int failed()",
        "int atLarge()",
    };

    public static void main(String[] args) {
        constants();
        constructor();
        methods();
        fields();
        Check.end();
    }

    private static void constants() {
        Check.same("NONE", TaktLine.NONE, -1);
        Check.same("ORDERED", TaktLine.ORDERED, 0);
        Check.same("ON_LINE", TaktLine.ON_LINE, 1);
        Check.same("LANE", TaktLine.LANE, 2);
        Check.same("LEFT", TaktLine.LEFT, 3);
    }

    private static void constructor() {
        int modifiers = TaktLine.class.getModifiers();
        Check.same("public class", Modifier.isPublic(modifiers), true);
        Check.same("final class", Modifier.isFinal(modifiers), true);
        Constructor<?>[] all = TaktLine.class.getDeclaredConstructors();
        Check.same("constructors", all.length, 1);
        Check.same("its parameters", all[0].getParameterCount(), 0);
        Check.same("public constructor", Modifier.isPublic(all[0].getModifiers()), true);
    }

    private static void methods() {
        TreeSet<String> due = new TreeSet<String>(Arrays.asList(METHODS));
        TreeSet<String> publicNames = new TreeSet<String>();
        TreeSet<String> seen = new TreeSet<String>();
        for (Method method : TaktLine.class.getDeclaredMethods()) {
            if (!Modifier.isPrivate(method.getModifiers())) {
                publicNames.add(method.getName());
                seen.add(signature(method));
                Check.same(method + " public", Modifier.isPublic(method.getModifiers()), true);
                Check.same(method + " static", Modifier.isStatic(method.getModifiers()), false);
            }
        }
        Check.same("methods", seen.toString(), due.toString());
        for (Method method : TaktLine.class.getDeclaredMethods()) {
            if (Modifier.isPrivate(method.getModifiers())) {
                Check.same("public name of a private " + method, publicNames.contains(method.getName()), false);
            }
        }
    }

    private static String signature(Method method) {
        StringBuilder text = new StringBuilder(method.getReturnType().getSimpleName());
        text.append(' ').append(method.getName()).append('(');
        String comma = "";
        for (Class<?> parameter : method.getParameterTypes()) {
            text.append(comma).append(parameter.getSimpleName());
            comma = ",";
        }
        text.append(')');
        for (Class<?> thrown : method.getExceptionTypes()) {
            text.append(' ').append(thrown.getSimpleName());
        }
        return text.toString();
    }

    private static void fields() {
        TreeSet<String> seen = new TreeSet<String>();
        for (Field field : TaktLine.class.getDeclaredFields()) {
            int modifiers = field.getModifiers();
            if (!Modifier.isPrivate(modifiers)) {
                seen.add(Modifier.toString(modifiers) + " " + field.getType() + " " + field.getName());
            }
            if (Modifier.isStatic(modifiers)) {
                Check.same(field + " final", Modifier.isFinal(modifiers), true);
            }
        }
        String kind = "public static final int ";
        TreeSet<String> due = new TreeSet<String>(Arrays.asList(
                kind + "NONE", kind + "ORDERED", kind + "ON_LINE", kind + "LANE", kind + "LEFT"));
        Check.same("fields", seen.toString(), due.toString());
    }
}
