import java.lang.reflect.Constructor;
import java.lang.reflect.Field;
import java.lang.reflect.Member;
import java.lang.reflect.Method;
import java.lang.reflect.Modifier;
import java.util.ArrayList;
import java.util.Arrays;
import java.util.List;
import java.util.TreeSet;

/** The public face of the document, no more and no less, and rule 1 of LANGUAGE.md. */
public final class FaceTest {
    private static final String[] METHODS = {
        "boolean value(int,int,double)", "boolean loss(double,double)", "boolean noise(double)",
        "int run(int,int)", "double bottom(int)", "boolean greatest()", "boolean edit(int,double)",
        "boolean lost(int)", "int bridged(int)", "double dead(int)", "double surface(int)",
        "int kind(int)", "boolean speed(double,double)", "double bent(int,int)",
        "boolean frequency(int)", "double joined(int,int,int)", "boolean ball(double,double)",
        "double factor(double)", "boolean tide(int,double)", "double tail(int)",
        "double map(double,double)", "boolean turned(int,double)", "boolean empty(int)"
    };

    public static void main(String[] args) {
        Due.whole("NONE", -1, BottomWalks.NONE);
        Due.yes("the class is final", Modifier.isFinal(BottomWalks.class.getModifiers()));
        Due.yes("the class is public", Modifier.isPublic(BottomWalks.class.getModifiers()));
        methods();
        constructors();
        fields();
        classesInside();
        sizes();
        Due.end();
    }

    private static void methods() {
        List<String> open = new ArrayList<>();
        TreeSet<String> openNames = new TreeSet<>();
        TreeSet<String> hiddenNames = namesInside();
        for (Method method : BottomWalks.class.getDeclaredMethods()) {
            if (Modifier.isPrivate(method.getModifiers())) {
                hiddenNames.add(method.getName());
            } else {
                open.add(written(method));
                openNames.add(method.getName());
            }
        }
        for (String method : METHODS) {
            Due.yes(method + " is in the face", open.contains(method));
        }
        Due.whole("methods in the face", METHODS.length, open.size());
        hiddenNames.retainAll(openNames);
        Due.yes("no private method bears the name of a public one: " + hiddenNames, hiddenNames.isEmpty());
    }

    /** Of the classes inside: none of their methods is public, so none may bear a public one's name. */
    private static TreeSet<String> namesInside() {
        TreeSet<String> names = new TreeSet<>();
        for (Class<?> inside : BottomWalks.class.getDeclaredClasses()) {
            for (Method method : inside.getDeclaredMethods()) {
                names.add(method.getName());
            }
        }
        return names;
    }

    private static String written(Method method) {
        StringBuilder text = new StringBuilder();
        for (Class<?> type : method.getParameterTypes()) {
            text.append(text.length() == 0 ? "" : ",").append(type.getName());
        }
        String access = Modifier.isPublic(method.getModifiers()) ? "" : "not public: ";
        return access + method.getReturnType().getName() + " " + method.getName() + "(" + text + ")";
    }

    private static void constructors() {
        Constructor<?>[] all = BottomWalks.class.getDeclaredConstructors();
        Due.whole("constructors", 1, all.length);
        Due.yes("the constructor is public", Modifier.isPublic(all[0].getModifiers()));
        Due.yes("the constructor takes two numbers",
                Arrays.equals(all[0].getParameterTypes(), new Class<?>[] {int.class, int.class}));
    }

    private static void fields() {
        for (Field field : BottomWalks.class.getDeclaredFields()) {
            Due.yes(field + " is private or NONE",
                    Modifier.isPrivate(field.getModifiers()) || field.getName().equals("NONE"));
            Due.yes(field + " is final where it is static", isFinalIfStatic(field));
        }
    }

    private static void classesInside() {
        for (Class<?> inside : BottomWalks.class.getDeclaredClasses()) {
            Due.yes(inside + " is static", Modifier.isStatic(inside.getModifiers()));
            Due.no(inside + " is public", Modifier.isPublic(inside.getModifiers()));
            for (Field field : inside.getDeclaredFields()) {
                Due.yes(field + " is final where it is static", isFinalIfStatic(field));
            }
        }
    }

    /** Rule 11. */
    private static void sizes() {
        Class<?>[] inside = BottomWalks.class.getDeclaredClasses();
        Due.yes(inside.length + " classes inside are at most 12", inside.length <= 12);
        List<Class<?>> all = new ArrayList<>(Arrays.asList(inside));
        all.add(BottomWalks.class);
        for (Class<?> one : all) {
            int fields = 0;
            for (Field field : one.getDeclaredFields()) {
                fields += Modifier.isStatic(field.getModifiers()) ? 0 : 1;
            }
            Due.yes(fields + " fields of " + one + " are at most 20", fields <= 20);
            for (Method method : one.getDeclaredMethods()) {
                Due.yes(method + " takes at most seven", method.getParameterCount() <= 7);
            }
        }
    }

    private static boolean isFinalIfStatic(Member field) {
        return !Modifier.isStatic(field.getModifiers()) || Modifier.isFinal(field.getModifiers());
    }
}
