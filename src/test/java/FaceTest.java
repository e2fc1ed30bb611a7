import java.lang.reflect.Executable;
import java.lang.reflect.Field;
import java.lang.reflect.Method;
import java.lang.reflect.Modifier;
import java.util.Arrays;
import java.util.List;
import java.util.Set;
import java.util.TreeSet;

/** The document's public face, and LANGUAGE.md's rules 1, 5 and 11 as far as a class tells them of itself. */
public final class FaceTest {
    private static final Bench bench = new Bench("FaceTest");
    private static final List<String> FACE = List.of("int feed(int,int,int,int,int)", "int text(int)", "int fault(int)",
        "int named(int,int)", "int doll(int,int)", "int nurse(int,int)", "int city(int,int)", "int moths(int)",
        "long law(int,int)", "int mend(int)", "boolean exchange(int,int)", "boolean give(int,int)", "int tea(int)", "int go(int)",
        "int ahead(int,int,int)", "int firstBreach()", "int quiet()", "int best(int,int,int)", "int enough(int,int)",
        "int nursing(int,int,int)", "int rests()", "int rest(int)", "long whole(int,int,int)", "int lists(int,int,int)",
        "int stays()", "int worst()", "int until(int,int)", "int safest(int)", "int answersOn(int)",
        "int note(int,int,int,boolean)", "int out(int)", "boolean known(int)", "int cares(int)", "int chance(int,int,int)",
        "int tried(int,int,int)", "int undo()", "int keep()", "int back()", "int count(int)");

    public static void main(String[] args) {
        Class<?> face = DollTruce.class;
        bench.due("public and final", Modifier.isPublic(face.getModifiers()) && Modifier.isFinal(face.getModifiers()), true);
        Set<String> seen = new TreeSet<>();
        for (Method method : face.getDeclaredMethods()) {
            if (Modifier.isPublic(method.getModifiers())) {
                seen.add(told(method));
            } else {
                bench.due(method + " is private", Modifier.isPrivate(method.getModifiers()) || method.isSynthetic(), true);
            }
        }
        for (String method : FACE) {
            bench.due("the face has " + method, seen.contains(method), true);
        }
        bench.due("methods of the face", seen.size(), FACE.size());
        bench.due("one constructor", face.getDeclaredConstructors().length, 1);
        bench.due("doll says what it throws", doll().getExceptionTypes().length, 2);
        fields(face, true);
        bench.due("at most twelve classes", face.getDeclaredClasses().length < 12, true);
        namesAreTheFaceAlone(face);
        for (Class<?> inside : face.getDeclaredClasses()) {
            bench.due(inside + " is static", Modifier.isStatic(inside.getModifiers()), true);
            fields(inside, false);
            namesAreTheFaceAlone(inside);
        }
        bench.end();
    }

    private static Method doll() {
        return Arrays.stream(DollTruce.class.getDeclaredMethods()).filter(m -> m.getName().equals("doll")).findFirst().get();
    }

    private static String told(Method method) {
        StringBuilder told = new StringBuilder(method.getReturnType().getName()).append(' ').append(method.getName()).append('(');
        for (Class<?> type : method.getParameterTypes()) {
            told.append(told.charAt(told.length() - 1) == '(' ? "" : ",").append(type.getName());
        }
        return told.append(')').toString();
    }

    private static void fields(Class<?> owner, boolean isFace) {
        int own = 0;
        for (Field field : owner.getDeclaredFields()) {
            if (Modifier.isStatic(field.getModifiers())) {
                bench.due(field + " is final", Modifier.isFinal(field.getModifiers()), true);
            } else {
                own++;
            }
            if (isFace && !field.getName().equals("NONE")) {
                bench.due(field + " is private", Modifier.isPrivate(field.getModifiers()), true);
            }
        }
        bench.due(owner + " has twenty fields at most", own <= 20, true);
    }

    private static void namesAreTheFaceAlone(Class<?> owner) {
        for (Method method : owner.getDeclaredMethods()) {
            boolean isOfFace = owner == DollTruce.class && Modifier.isPublic(method.getModifiers());
            boolean bearsName = FACE.stream().anyMatch(told -> told.contains(" " + method.getName() + "("));
            bench.due(method + " bears a name of the face", bearsName, isOfFace);
            bench.due(method + " takes seven at most", takesSeven(method), true);
        }
    }

    private static boolean takesSeven(Executable method) {
        return method.getParameterCount() <= 7;
    }
}
