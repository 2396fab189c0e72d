import java.lang.reflect.Constructor;
import java.lang.reflect.Field;
import java.lang.reflect.Method;
import java.lang.reflect.Modifier;
import java.util.ArrayList;
import java.util.Collections;
import java.util.List;

/** The public face is the document's, and nothing but private members stands beside it. */
public final class FaceTest {
    private static final String NONE_SUCH = " throws NoSuchElementException";
    private static final String EITHER = " throws NoSuchElementException, IllegalArgumentException";
    private static final String FACE = String.join("\n",
            "about(int,int)int" + NONE_SUCH, "airs(int,int,int)int" + NONE_SUCH, "clap(int,int,int,int,int,int)int" + NONE_SUCH,
            "clear()void", "count(int)int" + NONE_SUCH, "fault()int",
            "feed(int,int,int,int,int)int", "fits(int,int)boolean" + NONE_SUCH, "gone(int,int)int" + NONE_SUCH,
            "image()void", "knows(int,int,int,int,int)int" + NONE_SUCH, "land(int,int)int" + EITHER,
            "next(int,int,int,int)int" + EITHER, "plans(int,int,int)int" + EITHER, "restore()boolean",
            "spot(int,int)int", "station(int,int,int,int)int", "strength(int,int,int,int,int,int)int" + NONE_SUCH,
            "tick(int,int)int" + NONE_SUCH, "told(int,int)int" + NONE_SUCH, "where(int,int,int)int" + NONE_SUCH,
            "whose(int,int,int,int)int" + NONE_SUCH, "word(int,int,int,int)int" + NONE_SUCH);

    public static void main(String[] args) {
        Class<?> face = ClapValley.class;
        Check.due("public final", true, Modifier.isPublic(face.getModifiers()) && Modifier.isFinal(face.getModifiers()));
        List<String> open = new ArrayList<>();
        for (Method method : face.getDeclaredMethods()) {
            if (!Modifier.isPrivate(method.getModifiers())) {
                open.add(signature(method));
            }
        }
        Collections.sort(open);
        Check.due("methods", FACE, String.join("\n", open));
        for (Method method : face.getDeclaredMethods()) {
            boolean borrowed = Modifier.isPrivate(method.getModifiers()) && FACE.contains(method.getName() + "(");
            Check.due("private " + method.getName() + " bears a public name", false, borrowed && isWhole(method.getName()));
        }
        for (Class<?> inner : face.getDeclaredClasses()) {
            for (Method method : inner.getDeclaredMethods()) {
                Check.due(inner.getSimpleName() + "." + method.getName() + " bears a public name", false, isWhole(method.getName()));
            }
            Check.due(inner.getSimpleName() + " is static", true, Modifier.isStatic(inner.getModifiers()));
            Check.due(inner.getSimpleName() + " is open", false,
                    Modifier.isPublic(inner.getModifiers()) || Modifier.isProtected(inner.getModifiers()));
        }
        int fields = 0;
        for (Field field : face.getDeclaredFields()) {
            fields += Modifier.isPrivate(field.getModifiers()) ? 0 : 1;
        }
        Check.due("open fields", 1, fields);
        Check.due("NONE", -1, ClapValley.NONE);
        Constructor<?>[] constructors = face.getDeclaredConstructors();
        Check.due("constructors", 1, constructors.length);
        Check.due("public constructor", true, Modifier.isPublic(constructors[0].getModifiers()));
        Check.end();
    }

    private static boolean isWhole(String name) {
        return ("\n" + FACE).contains("\n" + name + "(");
    }

    private static String signature(Method method) {
        List<String> types = new ArrayList<>();
        for (Class<?> type : method.getParameterTypes()) {
            types.add(type.getSimpleName());
        }
        List<String> thrown = new ArrayList<>();
        for (Class<?> type : method.getExceptionTypes()) {
            thrown.add(type.getSimpleName());
        }
        return method.getName() + "(" + String.join(",", types) + ")" + method.getReturnType().getSimpleName()
                + (thrown.isEmpty() ? "" : " throws " + String.join(", ", thrown));
    }
}
