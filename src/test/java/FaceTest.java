import java.lang.reflect.Constructor;
import java.lang.reflect.Field;
import java.lang.reflect.Method;
import java.lang.reflect.Modifier;
import java.util.Arrays;
import java.util.stream.Collectors;

/** The public face is that of the document, to the word, and nothing else can be reached. */
public final class FaceTest {
    private static final String INDEX = " throws IndexOutOfBoundsException";
    private static final String TWO = INDEX + ", IllegalArgumentException";
    private static final String SAID = TWO + ", IllegalStateException";
    private static final String STATE = " throws IllegalStateException";

    private static final String[] FACE = {
        "int addPlayer(int)" + INDEX + ", IllegalStateException",
        "boolean turnAway(int, int)" + TWO,
        "int borrow(int, int)" + TWO,
        "int takeTurn()" + STATE,
        "int sayAtLeast(int, int)" + SAID,
        "int sayAtMost(int, int)" + SAID,
        "int begin()",
        "int players()",
        "int turnsTaken()",
        "int silentTurns()",
        "int playerInTurn()",
        "int hatOf(int)" + INDEX,
        "boolean sees(int, int)" + INDEX,
        "int hatsOf(int)" + INDEX,
        "int openWays()",
        "int openWaysWith(int, int)" + INDEX,
        "boolean isKnownToAll(int)" + INDEX,
        "int possibleWays(int)" + INDEX,
        "boolean holdsPossible(int, int, int)" + INDEX,
        "boolean isCertain(int)" + INDEX,
        "boolean knowsHatOf(int, int)" + INDEX,
        "boolean knowsCertain(int, int)" + INDEX,
        "int certainPlayers()",
        "int openAfterTurn()" + STATE,
        "int turnsUntilCertain(int)" + INDEX,
        "int turnsUntilAllCertain()",
        "int bestToName()",
        "int certainIfTold(int)" + INDEX,
        "double meanPossible()",
        "long digest()",
    };

    private static String names(Class<?>[] classes) {
        return Arrays.stream(classes).map(Class::getSimpleName).collect(Collectors.joining(", "));
    }

    private static String described(Method method) {
        String thrown = names(method.getExceptionTypes());
        return method.getReturnType().getSimpleName() + " " + method.getName()
                + "(" + names(method.getParameterTypes()) + ")"
                + (thrown.isEmpty() ? "" : " throws " + thrown);
    }

    private static boolean isOfFace(int modifiers) {
        return !Modifier.isPrivate(modifiers);
    }

    private static String reachableMethods() {
        return Arrays.stream(BorrowedHats.class.getDeclaredMethods())
                .filter(m -> isOfFace(m.getModifiers()))
                .map(m -> Modifier.toString(m.getModifiers()) + " " + described(m))
                .sorted().collect(Collectors.joining("\n"));
    }

    private static String methodsDue() {
        return Arrays.stream(FACE).map(m -> "public " + m).sorted()
                .collect(Collectors.joining("\n"));
    }

    public static void main(String[] args) {
        Checks checks = new Checks();
        checks.due("modifiers of the class", "public final",
                Modifier.toString(BorrowedHats.class.getModifiers()));
        checks.due("package", "", BorrowedHats.class.getPackageName());
        checks.due("methods", methodsDue(), reachableMethods());
        for (Constructor<?> made : BorrowedHats.class.getDeclaredConstructors()) {
            checks.due("constructor", "public BorrowedHats()", made.toString());
        }
        for (Field field : BorrowedHats.class.getDeclaredFields()) {
            checks.due(field + " can be reached", false, isOfFace(field.getModifiers()));
        }
        checks.end("FaceTest");
    }
}
