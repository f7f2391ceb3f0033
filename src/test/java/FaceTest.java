import java.lang.reflect.Constructor;
import java.lang.reflect.Field;
import java.lang.reflect.Member;
import java.lang.reflect.Method;
import java.lang.reflect.Modifier;
import java.util.Set;
import java.util.TreeSet;

/** The public face: the document's members, all of them and no others. */
public final class FaceTest {
    private static final Due DUE = new Due("FaceTest");

    private static final Set<String> FACE = Set.of(
        "int NONE", "int UNSAFE", "int UNSTRATIFIED", "ProgramFacts()",
        "int relation(int)", "boolean fact(int,int,int,boolean)", "int literal(int,int,int,boolean)",
        "int rule()", "boolean forget(int)", "int edit(int,int,int,int)", "boolean holds(int,int,int)",
        "int size(int)", "int tuple(int,int)", "int ways(int,int,int)", "int stratum(int)",
        "int line(int,int,int)", "int changes()", "boolean step(int)", "int site(int)", "int objects()");

    public static void main(String[] args) {
        DUE.sentence("The constants: NONE = -1 [..] UNSAFE = -2 [..] UNSTRATIFIED = -3");
        DUE.is("NONE", ProgramFacts.NONE, -1);
        DUE.is("UNSAFE", ProgramFacts.UNSAFE, -2);
        DUE.is("UNSTRATIFIED", ProgramFacts.UNSTRATIFIED, -3);
        DUE.sentence("The public face");
        DUE.is("class is public and final",
            ProgramFacts.class.getModifiers() == (Modifier.PUBLIC | Modifier.FINAL), true);
        Set<String> found = visibleMembers();
        for (String member : FACE) {
            DUE.is("face has " + member, found.contains(member), true);
        }
        for (String member : found) {
            DUE.is("document has " + member, FACE.contains(member), true);
        }
        for (Class<?> inside : ProgramFacts.class.getDeclaredClasses()) {
            DUE.is(inside + " is private or package-visible, and static",
                (inside.getModifiers() & (Modifier.PUBLIC | Modifier.PROTECTED)) == 0
                    && Modifier.isStatic(inside.getModifiers()), true);
        }
        privateNames();
        DUE.end();
    }

    private static Set<String> visibleMembers() {
        Set<String> found = new TreeSet<>();
        for (Field field : ProgramFacts.class.getDeclaredFields()) {
            if (isVisible(field)) {
                found.add(field.getType().getName() + " " + field.getName());
            }
        }
        for (Method method : ProgramFacts.class.getDeclaredMethods()) {
            if (isVisible(method)) {
                found.add(method.getReturnType().getName() + " " + method.getName()
                    + list(method.getParameterTypes()));
            }
        }
        for (Constructor<?> constructor : ProgramFacts.class.getDeclaredConstructors()) {
            if (isVisible(constructor)) {
                found.add("ProgramFacts" + list(constructor.getParameterTypes()));
            }
        }
        return found;
    }

    private static boolean isVisible(Member member) {
        return !Modifier.isPrivate(member.getModifiers()) && !member.isSynthetic();
    }

    private static String list(Class<?>[] types) {
        StringBuilder text = new StringBuilder("(");
        for (int k = 0; k < types.length; k++) {
            text.append(k == 0 ? "" : ",").append(types[k].getName());
        }
        return text.append(")").toString();
    }

    /** No private method, of the class or of one inside it, bears the name of a public one. */
    private static void privateNames() {
        checkPrivateNames(ProgramFacts.class);
        for (Class<?> inside : ProgramFacts.class.getDeclaredClasses()) {
            checkPrivateNames(inside);
        }
    }

    private static void checkPrivateNames(Class<?> owner) {
        for (Method method : owner.getDeclaredMethods()) {
            boolean taken = false;
            for (String member : FACE) {
                taken |= member.contains(" " + method.getName() + "(");
            }
            boolean inner = Modifier.isPrivate(method.getModifiers());
            DUE.is(method + " bears a public name", inner && taken, false);
        }
    }
}
