import java.lang.reflect.Constructor;
import java.lang.reflect.Field;
import java.lang.reflect.Method;
import java.lang.reflect.Modifier;
import java.util.ArrayList;
import java.util.Collections;
import java.util.List;

/** The public face is the document's, and nothing but private members stands beside it. */
public final class FaceTest {
    private static final String FACE = String.join("\n",
            "about(int,int)int", "airs(int,int,int)int", "clap(int,int,int,int,int,int)int", "clear()void",
            "count(int)int", "fault()int", "feed(int,int,int,int,int)int", "fits(int,int)boolean",
            "gone(int,int)int", "image()void", "knows(int,int,int,int,int)int", "land(int,int)int",
            "next(int,int,int,int)int", "plans(int,int,int)int", "restore()boolean", "spot(int,int)int",
            "station(int,int,int,int)int", "strength(int,int,int,int,int,int)int", "tick(int,int)int",
            "told(int,int)int", "where(int,int,int)int", "whose(int,int,int,int)int", "word(int,int,int,int)int");

    public static void main(String[] args) {
        Class<?> face = ClapValley.class;
        Check.due("public final", true, Modifier.isPublic(face.getModifiers()) && Modifier.isFinal(face.getModifiers()));
        List<String> open = new ArrayList<>();
        for (Method method : face.getDeclaredMethods()) {
            if (!Modifier.isPrivate(method.getModifiers())) {
                open.add(signature(method));
            }
        }
        Collections.sort(open);
        Check.due("methods", FACE, String.join("\n", open));
        for (Method method : face.getDeclaredMethods()) {
            boolean borrowed = Modifier.isPrivate(method.getModifiers()) && FACE.contains(method.getName() + "(");
            Check.due("private " + method.getName() + " bears a public name", false, borrowed && isWhole(method.getName()));
        }
        for (Class<?> inner : face.getDeclaredClasses()) {
            for (Method method : inner.getDeclaredMethods()) {
                Check.due(inner.getSimpleName() + "." + method.getName() + " bears a public name", false, isWhole(method.getName()));
            }
            Check.due(inner.getSimpleName() + " is static", true, Modifier.isStatic(inner.getModifiers()));
            Check.due(inner.getSimpleName() + " is open", false,
                    Modifier.isPublic(inner.getModifiers()) || Modifier.isProtected(inner.getModifiers()));
        }
        int fields = 0;
        for (Field field : face.getDeclaredFields()) {
            fields += Modifier.isPrivate(field.getModifiers()) ? 0 : 1;
        }
        Check.due("open fields", 1, fields);
        Check.due("NONE", -1, ClapValley.NONE);
        Constructor<?>[] constructors = face.getDeclaredConstructors();
        Check.due("constructors", 1, constructors.length);
        Check.due("public constructor", true, Modifier.isPublic(constructors[0].getModifiers()));
        Check.end();
    }

    private static boolean isWhole(String name) {
        return ("\n" + FACE).contains("\n" + name + "(");
    }

    private static String signature(Method method) {
        List<String> types = new ArrayList<>();
        for (Class<?> type : method.getParameterTypes()) {
            types.add(type.getSimpleName());
        }
        return method.getName() + "(" + String.join(",", types) + ")" + method.getReturnType().getSimpleName();
    }
}
