import java.lang.reflect.Constructor;
import java.lang.reflect.Field;
import java.lang.reflect.Method;
import java.lang.reflect.Modifier;
import java.util.List;
import java.util.Set;
import java.util.TreeSet;

/** The public face: exactly the constructor and methods of the document, with their parameters, results and exceptions. */
public final class FaceTest {
    private static final String BOUNDS = " IndexOutOfBoundsException";
    private static final String ARGUMENT = " IllegalArgumentException";
    private static final String STATE = " IllegalStateException";

    public static void main(String[] args) {
        Set<String> due = new TreeSet<>(List.of(
                "int feed(int,int,int,int,int)" + STATE,
                "int trim(int)" + ARGUMENT,
                "int compile(int)" + BOUNDS,
                "int errorAt()",
                "int plan(int,int)" + BOUNDS,
                "int addPlank(int,int,int)" + ARGUMENT + STATE,
                "int addKnot(int,int)" + BOUNDS + ARGUMENT + STATE,
                "int plank(int,int)" + BOUNDS,
                "int find(int,int,boolean)" + ARGUMENT,
                "int addFrame(int)" + ARGUMENT + STATE,
                "int frames(int,int)" + BOUNDS,
                "int addSlip()" + STATE,
                "int start(int,int,int)" + BOUNDS + ARGUMENT + STATE,
                "int lend(int,int,int)" + BOUNDS + ARGUMENT + STATE,
                "int slip(int,int)" + BOUNDS,
                "int bend(int,int,boolean)" + BOUNDS,
                "int stuck()",
                "int run(int)" + ARGUMENT,
                "int count(int)" + BOUNDS,
                "int hull(int,int)" + BOUNDS,
                "int foresee(int,int)" + ARGUMENT + BOUNDS,
                "double flaw()",
                "long digest()"));
        Set<String> found = new TreeSet<>();
        Set<String> publicNames = new TreeSet<>();
        Set<String> privateNames = new TreeSet<>();
        for (Method method : BendYard.class.getDeclaredMethods()) {
            if (Modifier.isPublic(method.getModifiers())) {
                found.add(told(method));
                publicNames.add(method.getName());
            } else if (!method.isSynthetic()) {
                Check.note(Modifier.isPrivate(method.getModifiers()), method + " is not private");
                privateNames.add(method.getName());
            }
        }
        Check.sameText("the face", due.toString(), found.toString());
        for (Class<?> inner : BendYard.class.getDeclaredClasses()) {
            Check.note(Modifier.isStatic(inner.getModifiers()), inner + " is not static");
            Check.note(!Modifier.isPublic(inner.getModifiers()), inner + " is public");
            for (Method method : inner.getDeclaredMethods()) {
                privateNames.add(method.getName());
            }
        }
        privateNames.retainAll(publicNames);
        Check.sameText("names that are public and not", "[]", privateNames.toString());
        for (Field field : BendYard.class.getDeclaredFields()) {
            Check.note(Modifier.isPrivate(field.getModifiers()), field + " is not private");
            Check.note(Modifier.isFinal(field.getModifiers()), field + " is not final");
        }
        Constructor<?>[] constructors = BendYard.class.getDeclaredConstructors();
        Check.same("constructors", 1, constructors.length);
        Check.same("parameters of the constructor", 0, constructors[0].getParameterCount());
        Check.note(Modifier.isPublic(constructors[0].getModifiers()), "the constructor is not public");
        Check.note(Modifier.isFinal(BendYard.class.getModifiers()), "the class is not final");
        Check.end("FaceTest");
    }

    private static String told(Method method) {
        StringBuilder text = new StringBuilder(method.getReturnType() + " " + method.getName() + "(");
        for (Class<?> type : method.getParameterTypes()) {
            text.append(text.charAt(text.length() - 1) == '(' ? "" : ",").append(type);
        }
        text.append(")");
        for (Class<?> type : method.getExceptionTypes()) {
            text.append(" ").append(type.getSimpleName());
        }
        return text.toString();
    }
}
