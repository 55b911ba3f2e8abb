import java.lang.reflect.Constructor;
import java.lang.reflect.Field;
import java.lang.reflect.Method;
import java.lang.reflect.Modifier;
import java.util.Arrays;
import java.util.Set;
import java.util.TreeSet;

/** The class has just the face that the document prints. */
public final class FaceTest {
    private static final String[] METHODS = {
        "int unit()", "int give(int,int,int,long,boolean)", "int take(int,int,int)", "int build(int,int,int)",
        "int way(int,int)", "int unway(int)", "int use(int,int,int)", "int unuse(int,int)", "int reader(int,boolean)",
        "int generated(int,int)", "int remove(int)", "int found(int,int,int)", "long value(int,int)",
        "int round(int,int)", "int chain(int,int,int,int)", "int missing(int)", "int size(int)",
        "long row(int,int) ArrayIndexOutOfBoundsException",
        "long kept(int,int) NullPointerException ArrayIndexOutOfBoundsException", "int why(int)", "int needs()",
        "int make(int)", "int force(int)", "long output(int)", "long anew()", "int coarse()",
        "int order(int) ArrayIndexOutOfBoundsException", "int ring(int)", "int leads(int,int)", "int count(int)",
        "int clear()",
    };

    public static void main(String[] args) {
        Class<?> face = RemakeNeeds2.class;
        Due.holds("public and final", face.getModifiers() == (Modifier.PUBLIC | Modifier.FINAL));
        methods(face);
        fields(face);
        for (Constructor<?> made : face.getDeclaredConstructors()) {
            Due.holds("constructor " + made, made.getParameterCount() == 0 && Modifier.isPublic(made.getModifiers()));
        }
        Due.due("constructors", face.getDeclaredConstructors().length, 1);
        for (Class<?> inside : face.getDeclaredClasses()) {
            int kind = inside.getModifiers();
            Due.holds("static, not public: " + inside, Modifier.isStatic(kind)
                    && !Modifier.isPublic(kind) && !Modifier.isProtected(kind));
        }
        Due.finish();
    }

    private static void methods(Class<?> face) {
        Set<String> wanted = new TreeSet<>(Arrays.asList(METHODS));
        Set<String> names = new TreeSet<>();
        for (String method : METHODS) {
            names.add(method.substring(method.indexOf(' ') + 1, method.indexOf('(')));
        }
        for (Method method : face.getDeclaredMethods()) {
            int kind = method.getModifiers();
            if (Modifier.isPrivate(kind)) {
                Due.holds("own name: " + method, !names.contains(method.getName()));
            } else {
                Due.holds("of the face: " + method, kind == Modifier.PUBLIC && wanted.remove(told(method)));
            }
        }
        Due.holds("all of the face, not " + wanted, wanted.isEmpty());
        for (Class<?> inside : face.getDeclaredClasses()) {
            for (Method method : inside.getDeclaredMethods()) {
                Due.holds("own name: " + method, !names.contains(method.getName()));
            }
        }
    }

    private static String told(Method method) {
        StringBuilder text = new StringBuilder();
        text.append(method.getReturnType()).append(' ').append(method.getName()).append('(');
        for (int i = 0; i < method.getParameterCount(); i++) {
            text.append(i == 0 ? "" : ",").append(method.getParameterTypes()[i]);
        }
        text.append(')');
        for (Class<?> thrown : method.getExceptionTypes()) {
            text.append(' ').append(thrown.getSimpleName());
        }
        return text.toString();
    }

    private static void fields(Class<?> face) {
        Set<String> constants = new TreeSet<>();
        for (Field field : face.getDeclaredFields()) {
            int kind = field.getModifiers();
            if (!Modifier.isPrivate(kind)) {
                Due.holds("a constant: " + field, kind == (Modifier.PUBLIC | Modifier.STATIC | Modifier.FINAL)
                        && field.getType() == int.class);
                constants.add(field.getName());
            }
        }
        Due.holds("constants " + constants,
                constants.equals(new TreeSet<>(Arrays.asList("UNKNOWN", "OUTSIDE", "STATE", "FULL", "NONE"))));
    }
}
