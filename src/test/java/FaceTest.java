import java.lang.reflect.Constructor;
import java.lang.reflect.Field;
import java.lang.reflect.Member;
import java.lang.reflect.Method;
import java.lang.reflect.Modifier;
import java.util.Arrays;
import java.util.Set;
import java.util.TreeSet;

/** The class shows the document's face and nothing else; its classes inside are static and not public. */
public final class FaceTest {
    private static final String FACE = "int sign(int) boolean end(int) int town() int rule() int left(int) int word(int) "
        + "int wall(int,int) int hangs(int,int) int set(int,int,int) int sheet(int,int,int,int) int hang(int,int) "
        + "int take(int) int bring(int) int lend(int,int,int) int weeks(int) int order() int soon(int) int rules(int) "
        + "int undo() int judge(int,int) int helps(int) int together(int) int most() int dearest() int cast(int) "
        + "int rob() int shows() int nearest(int) int shortest(int) int best() int same(int) int spell() "
        + "int unlike(int,int) int chain(int) int cover() int ladder(int,int) int streets(int) int wanting(int) "
        + "int scarce() int hoards() int counted(int,int,int) int forged() int liars() int forget() boolean keep(int) "
        + "boolean again(int) int count(int) int row(int)";

    public static void main(String[] args) throws Exception {
        Check check = new Check("FaceTest");
        Class<?> face = ChestOfLetters.class;
        Set<String> shown = new TreeSet<>();
        Set<String> publicNames = new TreeSet<>();
        for (Method method : face.getDeclaredMethods()) {
            if (isShown(method) && !method.isSynthetic()) {
                check.due("public " + method, Modifier.isPublic(method.getModifiers()), true);
                check.due("not static " + method, Modifier.isStatic(method.getModifiers()), false);
                shown.add(told(method));
                publicNames.add(method.getName());
            }
        }
        check.due("the methods", shown.toString(), new TreeSet<>(Arrays.asList(words())).toString());
        checkHidden(check, face, publicNames);
        for (Class<?> inside : face.getDeclaredClasses()) {
            check.due("static " + inside, Modifier.isStatic(inside.getModifiers()), true);
            check.due("not public " + inside, Modifier.isPublic(inside.getModifiers()), false);
            checkHidden(check, inside, publicNames);
        }
        for (Field field : face.getDeclaredFields()) {
            if (isShown(field)) {
                check.due("the constant", Modifier.toString(field.getModifiers()) + " " + field.getName(), "public static final NONE");
            }
        }
        check.due("NONE", ChestOfLetters.NONE, -1);
        check.due("final and public", Modifier.toString(face.getModifiers()), "public final");
        Constructor<?>[] makers = face.getDeclaredConstructors();
        check.due("constructors", makers.length, 1);
        check.due("the constructor", makers[0].toString(), "public ChestOfLetters()");
        check.end();
    }

    private static String[] words() {
        return FACE.replaceAll("(int|boolean) (\\w+\\()", "$1_$2").split(" ");
    }

    private static boolean isShown(Member member) {
        return !Modifier.isPrivate(member.getModifiers());
    }

    private static String told(Method method) {
        StringBuilder kinds = new StringBuilder();
        for (Class<?> kind : method.getParameterTypes()) {
            kinds.append(kinds.length() == 0 ? "" : ",").append(kind.getName());
        }
        return method.getReturnType().getName() + "_" + method.getName() + "(" + kinds + ")";
    }

    private static void checkHidden(Check check, Class<?> in, Set<String> publicNames) {
        for (Method method : in.getDeclaredMethods()) {
            if (!isShown(method)) {
                check.due("no public name for " + method, publicNames.contains(method.getName()), false);
            }
        }
        for (Field field : in.getDeclaredFields()) {
            if (Modifier.isStatic(field.getModifiers()) && !field.isSynthetic()) {
                check.due("static is final " + field, Modifier.isFinal(field.getModifiers()), true);
            }
        }
    }
}
