import java.lang.reflect.Constructor;
import java.lang.reflect.Field;
import java.lang.reflect.Method;
import java.lang.reflect.Modifier;
import java.util.TreeSet;

/** The class has the face of the document and no other. */
public final class FaceTest {
    private static final String[] FACE = {
        "int feed(int,int,int,int,int)", "int glass(int)", "int fault()", "int where()",
        "int person(int,int)", "int likes(int,int)", "int stay(int,int,int)", "int here(int)", "int most()",
        "int brushes()", "int brush(int,int)", "int at(int,int)", "int colour(int,int)", "int whose(int,int)",
        "int place(int,int)", "int many(int)", "int full()", "int uses(int,int)", "int wet(int,int)",
        "int shared(int)", "int sharedAll()", "int suffers(int)", "int sins(int)", "int alike(int)",
        "int alikeDays()", "int notches()", "int byHabit(int)", "int bestHabit()", "int byKind(int)",
        "int bestKind()", "int colours()", "int colourOf(int)", "int judge()", "int judgeAt(int)",
        "int explains()", "int explain(int,int)", "int isTrue(int)", "int wrongOnes()", "int pairings(int)",
        "int could(int,int)", "int surely(int,int)", "int ask(int)", "long drift(int,int,boolean)",
        "boolean move(int,int,int)", "int shake()", "boolean kind(int,int)", "boolean habit(int,int)",
        "boolean keep(int,int)", "boolean seed(int)", "boolean undo()", "int mark()", "boolean back(int)",
        "int led(int)", "int size(int)", "int trouble()"};

    public static void main(String[] args) {
        Check.due("public and final", BrushGlass.class.getModifiers() & (Modifier.PUBLIC | Modifier.FINAL),
            Modifier.PUBLIC | Modifier.FINAL);
        TreeSet<String> due = new TreeSet<>();
        TreeSet<String> publicNames = new TreeSet<>();
        for (String method : FACE) {
            due.add(method);
            publicNames.add(method.substring(method.indexOf(' ') + 1, method.indexOf('(')));
        }
        TreeSet<String> found = new TreeSet<>();
        for (Method method : BrushGlass.class.getDeclaredMethods()) {
            if (Modifier.isPrivate(method.getModifiers())) {
                Check.due("private " + method.getName() + " has a public name",
                    publicNames.contains(method.getName()), false);
            } else {
                found.add(told(method));
                Check.due(method.getName() + " is public", Modifier.isPublic(method.getModifiers()), true);
            }
        }
        Check.due("methods " + found, found.equals(due), true);
        int constructors = 0;
        for (Constructor<?> constructor : BrushGlass.class.getDeclaredConstructors()) {
            Check.due("constructor's parameters", constructor.getParameterCount(), 0);
            Check.due("constructor is public", Modifier.isPublic(constructor.getModifiers()), true);
            constructors++;
        }
        Check.due("constructors", constructors, 1);
        for (Field field : BrushGlass.class.getDeclaredFields()) {
            if (!Modifier.isPrivate(field.getModifiers())) {
                Check.due("field " + field.getName() + " is NONE", field.getName().equals("NONE"), true);
            }
        }
        Check.due("NONE", BrushGlass.NONE, -1);
        for (Class<?> inside : BrushGlass.class.getDeclaredClasses()) {
            inside(inside, publicNames);
        }
        Check.end();
    }

    /** Classes inside are private and static, and none of their private methods bears a public one's name. */
    private static void inside(Class<?> inside, TreeSet<String> publicNames) {
        int due = Modifier.PRIVATE | Modifier.STATIC;
        Check.due(inside.getName() + " is private and static", inside.getModifiers() & due, due);
        for (Method method : inside.getDeclaredMethods()) {
            boolean isPrivate = Modifier.isPrivate(method.getModifiers());
            Check.due(inside.getName() + "." + method.getName() + " has a public name",
                isPrivate && publicNames.contains(method.getName()), false);
        }
    }

    private static String told(Method method) {
        StringBuilder text = new StringBuilder();
        text.append(method.getReturnType().getSimpleName()).append(' ').append(method.getName()).append('(');
        for (int i = 0; i < method.getParameterCount(); i++) {
            text.append(i > 0 ? "," : "").append(method.getParameterTypes()[i].getSimpleName());
        }
        return text.append(')').toString();
    }
}
