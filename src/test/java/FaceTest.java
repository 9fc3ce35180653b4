import java.lang.reflect.Constructor;
import java.lang.reflect.Field;
import java.lang.reflect.Method;
import java.lang.reflect.Modifier;
import java.util.ArrayList;
import java.util.Arrays;
import java.util.List;
import java.util.TreeSet;

/** The public face: every constant, constructor and method, and nothing else that can be seen. */
public final class FaceTest {
    private static final String A = " throws IllegalArgumentException";
    private static final String B = " throws IndexOutOfBoundsException";
    private static final String S = " throws IllegalStateException";
    private static final String AB = A + ", IndexOutOfBoundsException";
    private static final String ABS = AB + ", IllegalStateException";

    private static final String[] METHODS = {
        "int append(int,int,int,int,int)", "int truncateInput(int)" + A, "int load()", "int play()",
        "int errorCode()", "int errorOffset()", "int place(int,int,int,int)" + ABS,
        "int fastenStrap(int,int,int)" + ABS, "int pass()" + S, "int undo()" + S, "int save(int)" + A,
        "int restore(int)" + A + ", IllegalStateException", "int columns()", "int rows()",
        "int emptyCells()", "int pieceCount()", "int strapCount()", "int completeRows()",
        "int undoableChanges()", "boolean isBlocked(int,int)" + B, "int pieceAt(int,int)" + B,
        "boolean hasStrap(int,int,int)" + AB, "int emptyInRow(int)" + B, "int pieceShape(int)" + B,
        "int pieceRotation(int)" + B, "int pieceColumn(int)" + B, "int pieceRow(int)" + B,
        "int pieceOwner(int)" + B, "int piecePoints(int)" + B, "int playerToMove()",
        "boolean isOver()", "int leader()", "int score(int)" + B,
        "int supply(int,int)" + B + ", IllegalArgumentException", "int strapsLeft(int)" + B,
        "int nameByte(int,int)" + B, "boolean fits(int,int,int,int)" + AB,
        "int misfitReason(int,int,int,int)" + AB, "int pointsFor(int,int,int,int)" + AB,
        "int mobility(int)" + B, "int fittingPlacements(int)" + A,
        "int mobilityAfter(int,int,int,int,int)" + AB, "int bestShape()", "int bestRotation()",
        "int bestColumn()", "int bestRow()", "int bestStrapEffect()", "int regionCount()",
        "int largestRegion()", "int regionSize(int,int)" + B, "boolean isDead(int,int)" + B,
        "int deadCells()", "int inconsistencies()", "double coverage()", "float meanRegion()",
        "int writeTrunk()", "int outputByte(int)"};

    private static final String[] CONSTANTS = {
        "NONE=-1", "BAR=0", "ELBOW=1", "ROD=2", "SQUARE=3", "CORNER=4", "RIGHT=0", "BELOW=1"};

    public static void main(String[] args) throws IllegalAccessException {
        Class<TrunkDuel> face = TrunkDuel.class;
        int modifiers = face.getModifiers();
        Check.due("the class is public and final",
                Modifier.isPublic(modifiers) && Modifier.isFinal(modifiers), true);
        Check.due("the methods", methodsOf(face), sorted(METHODS));
        Check.due("the constants", constantsOf(face), sorted(CONSTANTS));
        Constructor<?>[] constructors = face.getDeclaredConstructors();
        Check.due("constructors", constructors.length, 1);
        Check.due("the constructor is public", Modifier.isPublic(constructors[0].getModifiers()), true);
        Check.due("its parameters", constructors[0].getParameterCount(), 0);
        noPrivateNamesakes(face);
        Check.finish("FaceTest");
    }

    private static String methodsOf(Class<?> face) {
        List<String> seen = new ArrayList<>();
        for (Method method : face.getDeclaredMethods()) {
            if (!Modifier.isPrivate(method.getModifiers()) && !method.isSynthetic()) {
                Check.due(method + " is public", Modifier.isPublic(method.getModifiers()), true);
                Check.due(method + " is static", Modifier.isStatic(method.getModifiers()), false);
                seen.add(method.getReturnType() + " " + method.getName()
                        + "(" + names(method.getParameterTypes(), ",") + ")"
                        + (method.getExceptionTypes().length == 0 ? "" : " throws ")
                        + names(method.getExceptionTypes(), ", "));
            }
        }
        return sorted(seen.toArray(new String[0]));
    }

    private static String constantsOf(Class<?> face) throws IllegalAccessException {
        List<String> seen = new ArrayList<>();
        for (Field field : face.getDeclaredFields()) {
            int modifiers = field.getModifiers();
            if (!Modifier.isPrivate(modifiers) && !field.isSynthetic()) {
                Check.due(field + " is public static final", Modifier.isPublic(modifiers)
                        && Modifier.isStatic(modifiers) && Modifier.isFinal(modifiers)
                        && field.getType() == int.class, true);
                seen.add(field.getName() + "=" + field.get(null));
            }
        }
        return sorted(seen.toArray(new String[0]));
    }

    private static void noPrivateNamesakes(Class<?> face) {
        TreeSet<String> open = new TreeSet<>();
        for (Method method : face.getMethods()) {
            open.add(method.getName());
        }
        List<Class<?>> all = new ArrayList<>(Arrays.asList(face.getDeclaredClasses()));
        all.add(face);
        for (Class<?> one : all) {
            for (Method method : one.getDeclaredMethods()) {
                boolean inFace = Modifier.isPublic(method.getModifiers());
                Check.due(method + " has a name of the face", !inFace && open.contains(method.getName()), false);
            }
        }
    }

    private static String names(Class<?>[] types, String between) {
        StringBuilder joined = new StringBuilder();
        for (Class<?> type : types) {
            joined.append(joined.length() == 0 ? "" : between).append(type.getSimpleName());
        }
        return joined.toString();
    }

    private static String sorted(String[] lines) {
        String[] copy = lines.clone();
        Arrays.sort(copy);
        return String.join("\n", copy);
    }
}
