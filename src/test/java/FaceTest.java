import java.lang.reflect.Constructor;
import java.lang.reflect.Field;
import java.lang.reflect.Method;
import java.lang.reflect.Modifier;
import java.util.TreeSet;

/** The face is the document's, and nothing beside it can be seen from outside. */
public final class FaceTest {
    private static final String[] FACE = {
        "int bears()", "int breaks(int)", "int broken(int,int)", "int centuries(int,int,int)", "int city()",
        "int count(int)", "int feed(long,long,long)", "boolean forgive(int)", "int gains(int,int)",
        "boolean hear(int,boolean)", "int judged(int)", "int keep()", "int life()", "boolean mark(int,boolean)",
        "int oath(int,int)", "int person(int,int)", "boolean raise(int)", "int repair(int,int)", "int rests(int)",
        "int stands(int)", "int stone(int,int)", "int sure(int)", "int surest(int,int)", "boolean undo()",
        "int weakest(int)", "int years(int)",
    };

    public static void main(String[] args) {
        Check check = new Check();
        TreeSet<String> due = new TreeSet<>();
        for (String line : FACE) {
            due.add(line);
        }
        TreeSet<String> names = new TreeSet<>();
        TreeSet<String> open = new TreeSet<>();
        for (Method method : OathWalls.class.getDeclaredMethods()) {
            if (method.isSynthetic()) {
                continue;
            }
            StringBuilder text = new StringBuilder(method.getReturnType().getSimpleName());
            text.append(' ').append(method.getName()).append('(');
            for (int i = 0; i < method.getParameterCount(); i++) {
                text.append(i == 0 ? "" : ",").append(method.getParameterTypes()[i].getSimpleName());
            }
            text.append(')');
            if (Modifier.isPublic(method.getModifiers())) {
                open.add(text.toString());
                names.add(method.getName());
            } else {
                check.is(method.getName() + " is private", Modifier.isPrivate(method.getModifiers()), true);
            }
        }
        check.is("public methods " + open, open.equals(due), true);
        for (Class<?> inside : OathWalls.class.getDeclaredClasses()) {
            check.is(inside + " is static", Modifier.isStatic(inside.getModifiers()), true);
            check.is(inside + " is not public", Modifier.isPublic(inside.getModifiers()), false);
            for (Method method : inside.getDeclaredMethods()) {
                check.is(inside + " " + method.getName() + " bears a public name", names.contains(method.getName()), false);
            }
        }
        for (Field field : OathWalls.class.getDeclaredFields()) {
            boolean constant = field.getName().equals("NONE");
            check.is(field.getName(), Modifier.isPublic(field.getModifiers()), constant);
            check.is(field.getName() + " is private", Modifier.isPrivate(field.getModifiers()), !constant);
        }
        Constructor<?>[] made = OathWalls.class.getDeclaredConstructors();
        check.is("constructors", made.length, 1);
        check.is("class is final", Modifier.isFinal(OathWalls.class.getModifiers()), true);
        check.is("NONE", OathWalls.NONE, -1);
        check.end();
    }
}
