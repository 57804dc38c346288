import java.lang.reflect.Member;
import java.lang.reflect.Method;
import java.lang.reflect.Modifier;
import java.util.Set;
import java.util.TreeSet;

/** The face is the document's, and nothing else can be seen from outside. */
public final class FaceTest {
    private static final String[] FACE = {
        "int write(int)", "int wipe()", "int fault()", "int lay()", "int verb(int,int)", "int noun(int)",
        "int village(int,int)", "int stock(int,int)", "int work(int,int)", "int pass(int)",
        "int give(int,int,int,int)", "int sow(int,int)", "int undo()", "int behind(int,int,int,int)",
        "int silent(int)", "int lasts(int)", "int sent()", "int share(int,int,int)", "int readings(int)",
        "int say(int,int)", "int tells(int,int)", "int bred(int)", "int hear(int,int,boolean)",
        "int forget()", "int hoard(int,int,int)", "int caravan(int,int,int,int)", "int decade(int,int,int)",
        "int keep()", "int back()", "int count(int)"
    };

    private static String formOf(Method method) {
        StringBuilder form = new StringBuilder(method.getReturnType() + " " + method.getName() + "(");
        for (Class<?> type : method.getParameterTypes()) {
            form.append(form.charAt(form.length() - 1) == '(' ? "" : ",").append(type);
        }
        return form.append(")").toString();
    }

    private static boolean isHidden(Member member) {
        return Modifier.isPrivate(member.getModifiers()) || member.isSynthetic();
    }

    public static void main(String[] args) {
        Checks checks = new Checks();
        Class<?> face = FamineOfVerbs.class;
        Set<String> open = new TreeSet<>();
        Set<String> openNames = new TreeSet<>();
        Set<String> hiddenNames = new TreeSet<>();
        for (Method method : face.getDeclaredMethods()) {
            if (isHidden(method)) {
                hiddenNames.add(method.getName());
            } else {
                open.add(formOf(method));
                openNames.add(method.getName());
                checks.due("public " + method, method.getModifiers(), Modifier.PUBLIC);
            }
        }
        checks.due("methods", open, new TreeSet<>(Set.of(FACE)));
        hiddenNames.retainAll(openNames);
        checks.due("private methods with a public name", hiddenNames.toString(), "[]");
        Set<String> fields = new TreeSet<>();
        for (java.lang.reflect.Field field : face.getDeclaredFields()) {
            if (!isHidden(field)) {
                fields.add(field.getName());
                checks.due("modifiers of " + field, field.getModifiers(),
                        Modifier.PUBLIC | Modifier.STATIC | Modifier.FINAL);
            }
        }
        checks.due("constants", fields.toString(), "[BAD, FULL, NO, NONE]");
        checks.due("constructors", face.getDeclaredConstructors().length, 1);
        checks.due("the class", face.getModifiers(), Modifier.PUBLIC | Modifier.FINAL);
        checks.due("BAD", FamineOfVerbs.BAD, -1);
        checks.due("NO", FamineOfVerbs.NO, -2);
        checks.due("FULL", FamineOfVerbs.FULL, -3);
        checks.due("NONE", FamineOfVerbs.NONE, -4);
        checks.end();
    }
}
