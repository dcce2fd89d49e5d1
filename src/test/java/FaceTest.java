import java.lang.reflect.Constructor;
import java.lang.reflect.Field;
import java.lang.reflect.Method;
import java.lang.reflect.Modifier;
import java.util.Set;
import java.util.TreeSet;

/** The public face: the constants, the constructor and the methods of the document and no other. */
final class FaceTest {
    private static final Set<String> METHODS = Set.of(
        "boolean shape(int,int,int)", "boolean put(int,int,int)", "int at(int,int)", "int size(int)",
        "boolean transform(int,int,boolean)", "boolean convolve(int,int,int,int)",
        "boolean chirp(int,int,int,int)", "boolean add(int,int,int,int)", "boolean multiply(int,int,int)",
        "boolean rotate(int,int)", "boolean reciprocal(int,int)", "boolean interpolate(int,int,int)",
        "int evaluate(int,int)", "int recurrence(int)", "int predict(int)");

    private static String signature(Method method) {
        StringBuilder text = new StringBuilder(method.getReturnType() + " " + method.getName() + "(");
        String comma = "";
        for (Class<?> parameter : method.getParameterTypes()) {
            text.append(comma).append(parameter);
            comma = ",";
        }
        return text.append(")").toString();
    }

    private static void testMethods(Class<?> face) {
        Set<String> found = new TreeSet<>();
        Set<String> publicNames = new TreeSet<>();
        for (Method method : face.getDeclaredMethods()) {
            if (Modifier.isPublic(method.getModifiers())) {
                found.add(signature(method));
                publicNames.add(method.getName());
                Checks.due(method + " is static", Modifier.isStatic(method.getModifiers()), false);
            }
        }
        Checks.due("the public methods are " + found + "; that they are the document's", found.equals(METHODS), true);
        for (Method method : face.getDeclaredMethods()) {
            if (!Modifier.isPublic(method.getModifiers())) {
                Checks.due(method + " is private", Modifier.isPrivate(method.getModifiers()), true);
                Checks.due(method + " has a public name", publicNames.contains(method.getName()), false);
            }
        }
    }

    private static void testFields(Class<?> face) {
        for (Field field : face.getDeclaredFields()) {
            boolean constant = field.getName().equals("P") || field.getName().equals("G");
            int asked = constant ? Modifier.PUBLIC | Modifier.STATIC | Modifier.FINAL : Modifier.PRIVATE;
            int found = field.getModifiers() & (constant ? -1 : Modifier.PUBLIC | Modifier.PROTECTED | Modifier.PRIVATE);
            Checks.due("modifiers of " + field, found, asked);
        }
        Checks.due("P", ExactTransformDesk.P, 1014773761);
        Checks.due("G", ExactTransformDesk.G, 17);
    }

    public static void main(String[] args) {
        Class<?> face = ExactTransformDesk.class;
        Checks.due("modifiers of the class", face.getModifiers(), Modifier.PUBLIC | Modifier.FINAL);
        Checks.due("length of the package's name", face.getPackageName().length(), 0);
        Checks.due("nested classes", face.getDeclaredClasses().length, 0);
        Constructor<?>[] constructors = face.getDeclaredConstructors();
        Checks.due("constructors", constructors.length, 1);
        Checks.due("parameters of the constructor", constructors[0].getParameterCount(), 0);
        Checks.due("modifiers of the constructor", constructors[0].getModifiers(), Modifier.PUBLIC);
        testMethods(face);
        testFields(face);
        Checks.finish();
    }
}
