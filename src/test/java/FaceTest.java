import java.lang.reflect.Constructor;
import java.lang.reflect.Field;
import java.lang.reflect.Method;
import java.lang.reflect.Modifier;
import java.util.Arrays;
import java.util.Set;
import java.util.TreeSet;

/** The class's face is the document's and no more; nested classes bear none of its methods' names. */
public final class FaceTest {
    private static final Checks checks = new Checks("FaceTest");

    private static final String[] METHODS = {
        "int status()", "long top()", "long bottom()", "boolean tray(int,int,int)", "boolean write(int,int,long)",
        "long read(int,int)", "boolean pour(int,int,int,int,int)", "int feed(int,int,int,int,int)", "int net(int)",
        "int fault(int)", "int many(int)", "int person(int,int)", "int tie(int,int)", "boolean refuse(int,boolean)",
        "long weight(int)", "int reached(int,int)", "int backWalk(int,int)", "boolean spread(int,int)",
        "boolean adds(int,int)", "int greedy(int,int)", "int best(int,int)", "boolean bound(int,int)",
        "int rounds(int)", "boolean fight(int,int,int,int)", "int answer(int,int)", "int latest(int,int)",
        "int stops(int,int)", "boolean source(int,int,int)", "int run(int)", "int likeliest(int)", "int neverTried()",
        "int telling(int)", "int lead(int,int,int,int)", "int check(int,int,int)", "int lot(int)", "int meter(int,int)"};

    public static void main(String[] args) {
        checks.due("public", Modifier.isPublic(TellFirst.class.getModifiers()), true);
        checks.due("final", Modifier.isFinal(TellFirst.class.getModifiers()), true);
        methods();
        fields();
        constructors();
        nested();
        checks.end();
    }

    private static void methods() {
        Set<String> want = new TreeSet<>(Arrays.asList(METHODS));
        Set<String> names = new TreeSet<>();
        for (Method method : TellFirst.class.getDeclaredMethods()) {
            if (Modifier.isPrivate(method.getModifiers())) {
                continue;
            }
            StringBuilder text = new StringBuilder(method.getReturnType() + " " + method.getName() + "(");
            for (Class<?> type : method.getParameterTypes()) {
                text.append(text.charAt(text.length() - 1) == '(' ? "" : ",").append(type);
            }
            checks.due("the face has " + text, want.remove(text.append(")").toString()), true);
            names.add(method.getName());
        }
        checks.due("missing methods: " + want, want.size(), 0);
        for (Method method : TellFirst.class.getDeclaredMethods()) {
            boolean both = Modifier.isPrivate(method.getModifiers()) && names.contains(method.getName());
            checks.due("a private method bears a public name: " + method.getName(), both, false);
        }
        for (Class<?> inner : TellFirst.class.getDeclaredClasses()) {
            for (Method method : inner.getDeclaredMethods()) {
                checks.due("a name of the face in " + method, names.contains(method.getName()), false);
            }
        }
    }

    private static void fields() {
        for (Field field : TellFirst.class.getDeclaredFields()) {
            boolean constant = field.getName().equals("NONE");
            checks.due("field " + field, Modifier.isPrivate(field.getModifiers()), !constant);
            checks.due("static is final: " + field,
                !Modifier.isStatic(field.getModifiers()) || Modifier.isFinal(field.getModifiers()), true);
        }
    }

    private static void constructors() {
        Constructor<?>[] all = TellFirst.class.getDeclaredConstructors();
        checks.due("constructors", all.length, 1);
        checks.due("its parameters", all[0].getParameterCount(), 0);
        checks.due("it is public", Modifier.isPublic(all[0].getModifiers()), true);
    }

    private static void nested() {
        Class<?>[] inner = TellFirst.class.getDeclaredClasses();
        checks.due("at most twelve classes", inner.length < 12, true);
        for (Class<?> one : inner) {
            int modifiers = one.getModifiers();
            checks.due("static: " + one, Modifier.isStatic(modifiers), true);
            checks.due("hidden: " + one, Modifier.isPublic(modifiers) || Modifier.isProtected(modifiers), false);
            int fields = 0;
            for (Field field : one.getDeclaredFields()) {
                fields += Modifier.isStatic(field.getModifiers()) ? 0 : 1;
            }
            checks.due("fields of " + one, fields <= 20, true);
            for (Method method : one.getDeclaredMethods()) {
                checks.due("parameters of " + method, method.getParameterCount() <= 7, true);
            }
        }
    }
}
