import java.lang.reflect.Constructor;
import java.lang.reflect.Field;
import java.lang.reflect.Method;
import java.lang.reflect.Modifier;
import java.util.Arrays;
import java.util.Set;
import java.util.TreeSet;
import java.util.stream.Collectors;

/** The public face of the document, and no member beside it that others could see. */
final class FaceTest {
    private static final String I = " throws IndexOutOfBoundsException";
    private static final String A = "IllegalArgumentException";
    private static final String S = "IllegalStateException";

    public static void main(String[] args) {
        Set<String> want = new TreeSet<>(Set.of("int type(int) throws " + A + "," + S, "int clearText()", "int loadTree()",
                "int loadTemplate(int) throws " + A, "int errorPosition(int)" + I, "int nodes()", "int parentOf(int)" + I,
                "int children(int)" + I, "int tieRule(int)" + I, "int setFlowWeight(int,int)" + I + "," + A,
                "int setNodeWeight(int,int)" + I + "," + A, "int assign(int,int)" + I + "," + A, "int leafOf(int)" + I,
                "int setLinkRate(int) throws " + A, "int enqueue(int,int,int,int)" + I + "," + A + "," + S));
        want.addAll(Set.of("int dequeue()", "int transmit()", "int advance(int) throws " + A, "long time()",
                "long nextRelease()", "int shaped()", "int waiting()", "int queueLength(int)" + I,
                "int queueItem(int,int)" + I, "long queueRank(int,int)" + I, "long virtualTime(int)" + I,
                "long state(int,int)" + I + "," + A, "long rankIf(int,int,int,int)" + I + "," + A, "int peek(int)" + I,
                "long departureIf(int) throws " + A));
        want.addAll(Set.of("int flowOf(int)" + I, "long deadlineOf(int)" + I, "long departureOf(int)" + I,
                "int sent(int)" + I, "int sentBytes(int)" + I, "long totalDelay(int)" + I, "long greatestDelay(int)" + I,
                "int missed(int)" + I, "int share(int)" + I, "int checkpoint() throws " + S, "int rollback() throws " + S,
                "int commit() throws " + S, "long fingerprint()"));
        Set<String> got = new TreeSet<>();
        for (Method method : SchedulerTree.class.getDeclaredMethods()) {
            if (!Modifier.isPrivate(method.getModifiers())) {
                got.add(told(method));
            }
        }
        Script.due("the methods of the face", got, want);
        hiddenMembers();
        Script.end();
    }

    private static String told(Method method) {
        String exceptions = names(method.getExceptionTypes());
        String access = method.getModifiers() == Modifier.PUBLIC ? "" : "not just public: ";
        return access + method.getReturnType().getSimpleName() + " " + method.getName() + "("
                + names(method.getParameterTypes()) + ")" + (exceptions.isEmpty() ? "" : " throws " + exceptions);
    }

    private static String names(Class<?>[] types) {
        return Arrays.stream(types).map(Class::getSimpleName).collect(Collectors.joining(","));
    }

    private static void hiddenMembers() {
        Script.due("the class", SchedulerTree.class.getModifiers(), Modifier.PUBLIC | Modifier.FINAL);
        for (Field field : SchedulerTree.class.getDeclaredFields()) {
            Script.due("privacy of " + field.getName(), Modifier.isPrivate(field.getModifiers()), true);
        }
        Constructor<?>[] constructors = SchedulerTree.class.getDeclaredConstructors();
        Script.due("the constructors", constructors.length, 1);
        Script.due("the constructor", constructors[0].toString(), "public SchedulerTree(int)");
    }
}
