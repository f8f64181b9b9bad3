import java.lang.reflect.Constructor;
import java.lang.reflect.Field;
import java.lang.reflect.Method;
import java.lang.reflect.Modifier;
import java.util.ArrayList;
import java.util.Arrays;
import java.util.List;
import java.util.Set;
import java.util.TreeSet;

/** The public face of the document, and rule 1 of the language: nothing else can be seen from outside. */
public final class FaceTest {
    private static final String[] FACE = {
        "int write(int)", "int wipe()", "int fault()", "int hall()", "int bowl(int,int)", "int fish(int,int)",
        "int lip(int,int)", "int hour()", "int move(int,int)", "int water(int)", "int tell(int,int)",
        "int duty(int)", "int undo()", "int ahead(int,int)", "int lost(int)", "int crew()", "int keeps(int,int)",
        "int best(int)", "int judge(int,long)", "int say(int,int)", "int unsay()", "int firsts(int)",
        "int share(int,boolean)", "int rests(int,int,int)", "int ill(int,int,int,boolean)", "long seed(long)",
        "int decades(int)", "int keep(int)", "int again(int)", "int count(int)"};

    private static final Due DUE = new Due();

    public static void main(String[] args) throws Exception {
        methods();
        constants();
        constructors();
        inside();
        DUE.end();
    }

    private static void methods() {
        Set<String> seen = new TreeSet<>();
        for (Method method : BowlState.class.getDeclaredMethods()) {
            boolean isPrivate = Modifier.isPrivate(method.getModifiers());
            if (!isPrivate) {
                seen.add(told(method));
                DUE.holds(method + " is public and of the object", method.getModifiers() == Modifier.PUBLIC);
            }
        }
        DUE.holds("the methods are those of the document: " + seen, seen.equals(new TreeSet<>(Arrays.asList(FACE))));
    }

    private static String told(Method method) {
        List<String> types = new ArrayList<>();
        for (Class<?> type : method.getParameterTypes()) {
            types.add(type.getName());
        }
        return method.getReturnType().getName() + " " + method.getName() + "(" + String.join(",", types) + ")";
    }

    private static void constants() throws Exception {
        String[] names = {"UNKNOWN", "OUTSIDE", "STATE", "FULL", "NONE"};
        int[] values = {-1, -2, -3, -4, -9};
        for (int i = 0; i < names.length; i++) {
            Field field = BowlState.class.getField(names[i]);
            DUE.is(names[i], field.getInt(null), values[i]);
            DUE.holds(names[i] + " is a constant", Modifier.isFinal(field.getModifiers()));
        }
        int visible = 0;
        for (Field field : BowlState.class.getDeclaredFields()) {
            visible += Modifier.isPrivate(field.getModifiers()) ? 0 : 1;
        }
        DUE.is("visible fields", visible, names.length);
    }

    private static void constructors() {
        Constructor<?>[] all = BowlState.class.getDeclaredConstructors();
        DUE.is("constructors", all.length, 1);
        DUE.is("its parameters", all[0].getParameterCount(), 0);
        DUE.holds("it is public", Modifier.isPublic(all[0].getModifiers()));
        int modifiers = BowlState.class.getModifiers();
        DUE.holds("public and final", Modifier.isPublic(modifiers) && Modifier.isFinal(modifiers));
    }

    /** Rules 1, 5 and 11: classes inside are static, no name of the face is used again, static fields are final. */
    private static void inside() {
        Set<String> names = new TreeSet<>();
        for (String line : FACE) {
            names.add(line.substring(line.indexOf(' ') + 1, line.indexOf('(')));
        }
        Class<?>[] classes = BowlState.class.getDeclaredClasses();
        DUE.holds("at most some twelve classes", classes.length < 12);
        fields(BowlState.class);
        for (Class<?> type : classes) {
            int modifiers = type.getModifiers();
            DUE.holds(type + " is static", Modifier.isStatic(modifiers));
            DUE.holds(type + " is not public", !Modifier.isPublic(modifiers) && !Modifier.isProtected(modifiers));
            fields(type);
            for (Method method : type.getDeclaredMethods()) {
                DUE.holds(method + " has a name of its own", !names.contains(method.getName()));
                DUE.holds(method + " takes at most seven", method.getParameterCount() <= 7);
            }
        }
    }

    private static void fields(Class<?> type) {
        int own = 0;
        for (Field field : type.getDeclaredFields()) {
            boolean isStatic = Modifier.isStatic(field.getModifiers());
            own += isStatic ? 0 : 1;
            DUE.holds(field + " is final, if static", !isStatic || Modifier.isFinal(field.getModifiers()));
        }
        DUE.holds(type + " has at most twenty fields", own <= 20);
    }
}
