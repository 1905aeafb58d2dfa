import java.lang.reflect.Constructor;
import java.lang.reflect.Field;
import java.lang.reflect.Method;
import java.lang.reflect.Modifier;
import java.util.Set;
import java.util.TreeSet;

/** The public face of the document, and the rules of LANGUAGE.md that a compiled class still shows. */
public final class FaceTest {
    private static final Due DUE = new Due("FaceTest");
    private static final Set<String> FACE = new TreeSet<>(Set.of(
        "int put(int,int,int,int)", "int wipe()", "boolean width(int,int)", "boolean ligature(int,int,int)",
        "boolean kern(int,int,int)", "boolean pattern(int,int,int,int)", "boolean measure(int,int,int)",
        "boolean glue(int,int,int)", "boolean rules(int,int,int)", "int span(int,int)", "boolean hyphen(int)",
        "int lines()", "int line(int,int)", "int glyph(int)", "int position(int)", "long demerits(int)"));
    private static final Set<Class<?>> SINGLE = Set.of(int.class, long.class, short.class, byte.class, char.class,
        boolean.class);

    private static String shown(Method method) {
        StringBuilder all = new StringBuilder(method.getReturnType() + " " + method.getName() + "(");
        for (Class<?> type : method.getParameterTypes()) {
            all.append(all.charAt(all.length() - 1) == '(' ? "" : ",").append(type.getName());
        }
        return all.append(')').toString();
    }

    private static void methods() {
        Set<String> open = new TreeSet<>();
        Set<String> openNames = new TreeSet<>();
        Set<String> closedNames = new TreeSet<>();
        for (Method method : GalleyDesk.class.getDeclaredMethods()) {
            if (Modifier.isPublic(method.getModifiers())) {
                open.add(shown(method));
                openNames.add(method.getName());
            } else {
                closedNames.add(method.getName());
                DUE.yes("rule 1: private " + method.getName(), Modifier.isPrivate(method.getModifiers()));
            }
            DUE.yes("rule 10: parameters of " + method.getName(), method.getParameterCount() <= 7);
            DUE.no("rule 4: array answered by " + method.getName(), method.getReturnType().isArray());
        }
        DUE.is("the public methods", open.toString(), FACE.toString());
        closedNames.retainAll(openNames);
        DUE.is("rule 1: private methods with a public name", closedNames.toString(), "[]");
    }

    private static void fields() {
        int changing = 0;
        for (Field field : GalleyDesk.class.getDeclaredFields()) {
            Class<?> type = field.getType();
            Class<?> single = type.isArray() ? type.getComponentType() : type;
            boolean fixed = Modifier.isStatic(field.getModifiers());
            changing += fixed ? 0 : 1;
            DUE.yes("rule 1: private " + field.getName(), Modifier.isPrivate(field.getModifiers()));
            DUE.yes("rule 2: type of " + field.getName(), SINGLE.contains(single));
            boolean constant = Modifier.isFinal(field.getModifiers()) && (type == int.class || type == long.class);
            DUE.yes("rule 5: constant " + field.getName(), !fixed || constant);
            boolean kept = Modifier.isFinal(field.getModifiers());
            DUE.yes("rule 4: array that stays " + field.getName(), !type.isArray() || kept);
        }
        DUE.yes("rule 10: at most forty fields", changing <= 40);
    }

    public static void main(String[] args) {
        Constructor<?>[] made = GalleyDesk.class.getDeclaredConstructors();
        DUE.is("one constructor", made.length, 1);
        DUE.yes("public constructor", Modifier.isPublic(made[0].getModifiers()));
        DUE.is("constructor without parameters", made[0].getParameterCount(), 0);
        DUE.yes("public", Modifier.isPublic(GalleyDesk.class.getModifiers()));
        DUE.yes("final", Modifier.isFinal(GalleyDesk.class.getModifiers()));
        DUE.is("rule 1: no nested class", GalleyDesk.class.getDeclaredClasses().length, 0);
        methods();
        fields();
        DUE.end();
    }
}
