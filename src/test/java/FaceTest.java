import java.lang.reflect.Constructor;
import java.lang.reflect.Field;
import java.lang.reflect.Method;
import java.lang.reflect.Modifier;
import java.util.Arrays;
import java.util.Set;
import java.util.TreeSet;

/** The public face is just that of the document, and no other method bears one of its names. */
public final class FaceTest {
    private static final String[] FACE = {
        "int sign(int)", "boolean end(int)", "int plates()", "int gears()", "int sets(int,int)",
        "int circle(int) throws", "int gear(int) throws", "int simple(int)", "int compound(int)",
        "int differential(int)", "int ways(int)", "int hard(int,int)", "int train(int,int)",
        "int nearest(int,int)", "int ratios()", "int lead(int)", "int near(int,int,int)", "int tree(int,int)",
        "int angle(int)", "int uses(int)", "int geared(int,int,int,int,int)", "int ungeared()",
        "int cranks(int,int,int)", "int cuts()", "int wipes()", "int divides(int,int)", "int mark(int)",
        "int gaps()", "int missing(int)", "int reaches()", "int day()", "int undo()", "int years(int,int)",
        "boolean keep(int)", "boolean again(int)", "int count(int)", "long row(int) throws"};

    private FaceTest() {
    }

    public static void main(String[] args) {
        Class<?> face = DividingHead.class;
        Check.holds("the class is public and final",
            Modifier.isPublic(face.getModifiers()) && Modifier.isFinal(face.getModifiers()));
        Set<String> names = new TreeSet<>();
        Set<String> found = new TreeSet<>();
        for (Method m : face.getDeclaredMethods()) {
            if (!Modifier.isPrivate(m.getModifiers()) && !m.isSynthetic()) {
                found.add(told(m));
                names.add(m.getName());
            }
        }
        Set<String> want = new TreeSet<>(Arrays.asList(FACE));
        Check.holds("the methods are those of the document: " + found, found.equals(want));
        for (Field f : face.getDeclaredFields()) {
            boolean isNone = f.getName().equals("NONE") && Modifier.isPublic(f.getModifiers())
                && Modifier.isStatic(f.getModifiers()) && Modifier.isFinal(f.getModifiers());
            Check.holds("field " + f.getName() + " is private, or NONE", isNone || Modifier.isPrivate(f.getModifiers()));
        }
        Constructor<?>[] made = face.getDeclaredConstructors();
        Check.holds("one public constructor without arguments",
            made.length == 1 && Modifier.isPublic(made[0].getModifiers()) && made[0].getParameterCount() == 0);
        checkOthers(face, names);
        for (Class<?> inside : face.getDeclaredClasses()) {
            Check.holds(inside + " is static, and private or package-visible", Modifier.isStatic(inside.getModifiers())
                && !Modifier.isPublic(inside.getModifiers()) && !Modifier.isProtected(inside.getModifiers()));
            checkOthers(inside, names);
        }
        Check.holds("at most twelve classes", face.getDeclaredClasses().length + 1 <= 12);
        Check.finish();
    }

    private static String told(Method m) {
        StringBuilder b = new StringBuilder();
        b.append(m.getReturnType().getName()).append(' ').append(m.getName()).append('(');
        for (int i = 0; i < m.getParameterCount(); i++) {
            b.append(i == 0 ? "" : ",").append(m.getParameterTypes()[i].getName());
        }
        b.append(')').append(m.getExceptionTypes().length > 0 ? " throws" : "");
        return b.toString();
    }

    /** No other method bears a name of the face; few fields; few parameters. */
    private static void checkOthers(Class<?> c, Set<String> names) {
        int fields = 0;
        for (Field f : c.getDeclaredFields()) {
            boolean constant = Modifier.isStatic(f.getModifiers());
            Check.holds(f + " is final if static", !constant || Modifier.isFinal(f.getModifiers()));
            fields += constant ? 0 : 1;
        }
        Check.holds(c + " has at most twenty fields", fields <= 20);
        for (Method m : c.getDeclaredMethods()) {
            boolean ofFace = c == DividingHead.class && Modifier.isPublic(m.getModifiers());
            Check.holds(m + " bears no name of the face", ofFace || !names.contains(m.getName()));
            Check.holds(m + " takes at most seven parameters", m.getParameterCount() <= 7);
        }
    }
}
