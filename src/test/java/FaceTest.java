import java.lang.reflect.Constructor;
import java.lang.reflect.Field;
import java.lang.reflect.Method;
import java.lang.reflect.Modifier;
import java.util.Arrays;
import java.util.Set;
import java.util.TreeSet;

/** The public face is the document's, and nothing else in the class can be seen from outside. */
public final class FaceTest {
    private static final String[] FACE = {
        "int adds()", "int back()", "int checks()", "int count(int)", "int drops(int)", "boolean end(int)",
        "int flip(int,int,int)", "int flips()", "int form(int,int)", "int format(int,int,int,int)",
        "int given(int,int,int)", "int groups(int)", "int joins()", "int keeps()", "int lifts()",
        "int like(int,int,int)", "int mirrored()", "int mirrors()", "int multiplies()", "int narrows(int,int)",
        "int number(int,int,int)", "int others()", "int plus(int,int,int)", "int rolls()", "int round()",
        "long row(int)", "int scales(int,int,int)", "int scheme()", "int shears(int,int,int,int)", "int sheds()",
        "int sign(int)", "int spans(int)", "int splits(int,int)", "int sums()", "int swaps(int,int,int)",
        "int unlikes()", "int uses(int,int)", "int walks(int,int)", "int widens(int)"};

    public static void main(String[] args) throws Exception {
        Class<FewProducts> face = FewProducts.class;
        Due.is("public and final", face.getModifiers(), Modifier.PUBLIC | Modifier.FINAL);
        Due.is("NONE", FewProducts.NONE, -1);
        methods(face);
        fields(face);
        Constructor<?>[] constructors = face.getDeclaredConstructors();
        Due.is("one constructor", constructors.length, 1);
        Due.is("it is public", constructors[0].getModifiers(), Modifier.PUBLIC);
        Due.is("without arguments", constructors[0].getParameterCount(), 0);
        Due.is("row throws", face.getMethod("row", int.class).getExceptionTypes()[0].getSimpleName(),
            "NoSuchElementException");
        Due.is("some twelve classes", face.getDeclaredClasses().length <= 12, true);
        for (Class<?> inside : face.getDeclaredClasses()) {
            Due.is(inside + " is static", Modifier.isStatic(inside.getModifiers()), true);
            Due.is(inside + " is not public", (inside.getModifiers() & (Modifier.PUBLIC | Modifier.PROTECTED)) == 0, true);
            Due.is(inside + " has few fields", inside.getDeclaredFields().length <= 20, true);
            statics(inside);
        }
        Due.over();
    }

    private static void methods(Class<?> face) {
        Set<String> seen = new TreeSet<>();
        Set<String> hidden = new TreeSet<>();
        Set<String> names = new TreeSet<>();
        for (Method method : face.getDeclaredMethods()) {
            String types = Arrays.toString(Arrays.stream(method.getParameterTypes()).map(Class::getSimpleName).toArray());
            String told = method.getReturnType().getSimpleName() + " " + method.getName() + "("
                + types.substring(1, types.length() - 1).replace(" ", "") + ")";
            if (Modifier.isPrivate(method.getModifiers())) {
                hidden.add(method.getName());
            } else if (!method.isSynthetic()) {
                seen.add(told);
                names.add(method.getName());
                Due.is(told + " is public, no more", method.getModifiers(), Modifier.PUBLIC);
            }
        }
        Due.is("the methods", seen.toString(), new TreeSet<>(Arrays.asList(FACE)).toString());
        hidden.retainAll(names);
        Due.is("private ones with a public name", hidden.toString(), "[]");
    }

    private static void fields(Class<?> face) {
        int own = 0;
        for (Field field : face.getDeclaredFields()) {
            boolean isConstant = Modifier.isStatic(field.getModifiers());
            own += isConstant ? 0 : 1;
            if (!field.getName().equals("NONE")) {
                Due.is(field + " is private", Modifier.isPrivate(field.getModifiers()), true);
            }
        }
        Due.is("few fields", own <= 20, true);
        statics(face);
    }

    private static void statics(Class<?> any) {
        for (Field field : any.getDeclaredFields()) {
            if (Modifier.isStatic(field.getModifiers())) {
                Due.is(field + " is final", Modifier.isFinal(field.getModifiers()), true);
                Due.is(field + " is a number", field.getType().isPrimitive(), true);
            }
        }
    }

    private FaceTest() {
    }
}
