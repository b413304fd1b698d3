import java.lang.reflect.Constructor;
import java.lang.reflect.Field;
import java.lang.reflect.Method;
import java.lang.reflect.Modifier;
import java.util.Set;
import java.util.TreeSet;

/** The public face: every constant, the constructor and every method of the document, and nothing else. */
final class FaceTest {
    private static final String[] CONSTANTS = {
        "NO_SUCH_STATE=-1", "NO_SUCH_EDGE=-2", "BAD_VALUE=-3", "FULL=-4", "NONE=-5", "NOT_DETERMINISTIC=-6",
        "NOT_AN_ENCODER=-7", "ODD_LENGTH=-8", "NO_SUCH_SLOT=-9", "EMPTY_SLOT=-10", "INDEX_OUT_OF_RANGE=-11",
        "NEGATIVE_LENGTH=-12", "SYNTAX_ERROR=-100"};
    private static final String[] METHODS = {
        "int loadRunLength(int,int)", "int loadCharge(int)", "int clear(int)", "int addState()",
        "int addEdge(int,int,int)", "int removeEdge(int)", "int stateCount()", "int edgeCount()",
        "int labelLength()", "int edgeStart(int)", "int edgeLabel(int)", "int edgeEnd(int)", "int power(int)",
        "int split(int,int)", "int isDeterministic()", "int isIrreducible()", "int appendCharacter(int)",
        "int parseConstraint()", "int appendBit(int)", "int clearWord()", "int wordLength()", "int wordBit(int)",
        "int firstViolation(int)", "int balance()", "int invert(int)", "long countWords(int,int,int)",
        "int unrank(int,int,int,long)", "long rank(int,int)", "long growthRate(int)",
        "int eigenvectorElement(int,int)", "int eigenvectorBound(int)", "int isEncoder(int)",
        "int startEncoder(int,int)", "int encode(int)", "int encoderState()", "int anticipation()",
        "int decode(int)", "int newArray(int,int)", "int setElement(int,int,int)", "int element(int,int)",
        "int firstDifference(int,int)", "int saveSnapshot()", "int restoreSnapshot()"};

    private FaceTest() {
    }

    static void run(Check check) throws ReflectiveOperationException {
        check.about("the public face");
        check.holds("the class is public and final",
            ConstrainedCoder.class.getModifiers() == (Modifier.PUBLIC | Modifier.FINAL));
        check.holds("the constants are those of the document", constants().equals(setOf(CONSTANTS)));
        check.holds("the methods are those of the document", methods().equals(setOf(METHODS)));
        Constructor<?>[] constructors = ConstrainedCoder.class.getDeclaredConstructors();
        check.is("the number of constructors", constructors.length, 1);
        check.is("the constructor's modifiers", constructors[0].getModifiers(), Modifier.PUBLIC);
        check.is("the constructor's parameters", constructors[0].getParameterCount(), 0);
        checkPrivateNames(check);
    }

    private static Set<String> constants() throws IllegalAccessException {
        Set<String> found = new TreeSet<>();
        for (Field field : ConstrainedCoder.class.getDeclaredFields()) {
            if (field.getModifiers() == (Modifier.PUBLIC | Modifier.STATIC | Modifier.FINAL)) {
                found.add(field.getName() + "=" + field.getInt(null));
            } else if (!Modifier.isPrivate(field.getModifiers())) {
                found.add("not of the document: " + field);
            }
        }
        return found;
    }

    private static Set<String> methods() {
        Set<String> found = new TreeSet<>();
        for (Method method : ConstrainedCoder.class.getDeclaredMethods()) {
            if (method.getModifiers() == Modifier.PUBLIC) {
                found.add(signature(method));
            } else if (!Modifier.isPrivate(method.getModifiers())) {
                found.add("not of the document: " + method);
            }
        }
        return found;
    }

    private static String signature(Method method) {
        StringBuilder text = new StringBuilder();
        for (Class<?> type : method.getParameterTypes()) {
            text.append(text.length() == 0 ? "" : ",").append(type.getName());
        }
        return method.getReturnType().getName() + " " + method.getName() + "(" + text + ")";
    }

    private static void checkPrivateNames(Check check) {
        Set<String> names = new TreeSet<>();
        for (String method : METHODS) {
            names.add(method.substring(method.indexOf(' ') + 1, method.indexOf('(')));
        }
        for (Class<?> inside : ConstrainedCoder.class.getDeclaredClasses()) {
            for (Method method : inside.getDeclaredMethods()) {
                check.holds(method + " has a name of its own", !names.contains(method.getName()));
            }
        }
        for (Method method : ConstrainedCoder.class.getDeclaredMethods()) {
            check.holds(method + " does not share a public name",
                Modifier.isPublic(method.getModifiers()) || !names.contains(method.getName()));
        }
    }

    private static Set<String> setOf(String[] texts) {
        return new TreeSet<>(java.util.Arrays.asList(texts));
    }
}
