import java.io.IOException;
import java.lang.reflect.Constructor;
import java.lang.reflect.Executable;
import java.lang.reflect.Field;
import java.lang.reflect.Member;
import java.lang.reflect.Method;
import java.lang.reflect.Modifier;
import java.nio.file.Files;
import java.nio.file.Path;
import java.util.ArrayList;
import java.util.List;
import java.util.Set;
import java.util.TreeSet;

/** The class has the document's face and no other, and its source keeps to rules that can be looked up in it. */
public final class FaceTest {
    private static final String I = "IndexOutOfBoundsException";
    private static final String A = "IllegalArgumentException";
    private static final String S = "IllegalStateException";
    private static final String N = "NoSuchElementException";

    private static final String[] FACE = {
        "int load(int,int,int,int) " + A + " " + S,
        "boolean set(int,int,int) " + I + " " + A + " " + S,
        "boolean clear(int,int) " + I + " " + S,
        "int remove(int) " + I + " " + S,
        "int valueAt(int,int) " + I + " " + N,
        "int moment()",
        "int chunks()",
        "char encoding(int,int) " + I,
        "int bits(int,int) " + I,
        "int changes(int) " + I,
        "int least(int,int) " + I + " " + N,
        "int greatest(int,int) " + I + " " + N,
        "boolean mayMiss(int,int) " + I,
        "int mend(int) " + I + " " + S,
        "int compare(char,int,int) " + A + " " + S,
        "int join(char,int,int) " + A + " " + N + " " + S,
        "int canBe(int,int) " + N + " " + I,
        "int open(int,int,int,int) " + N + " " + A + " " + S,
        "int read(int) " + A,
        "int takeBack(int,int) " + N + " " + A,
        "boolean isDone(int) " + N,
        "int position()",
        "long chunksRead()",
        "int skipped(int) " + N,
        "int spilled(int) " + N,
        "int aside(int) " + N,
        "int groups(int) " + N + " " + S,
        "int keyAt(int,int) " + N + " " + S + " " + I,
        "int total(int,int,int) " + N + " " + S + " " + I + " " + A,
        "int edge(int,int,boolean) " + N + " " + S + " " + I + " UnsupportedOperationException",
        "boolean isKept(int) " + N,
        "int keptFor(int,int,int) " + N,
        "int sum(int,int) " + N + " " + A,
        "int bound(int,int,boolean) " + N + " " + A,
        "double meanBits() ArithmeticException",
        "float skippedShare() ArithmeticException",
        "boolean isSound()",
    };

    private static final String[] FORBIDDEN = {
        "->", "::", "try", "catch", "finally", "synchronized", "assert ", "package ", "String.format",
        "System.out", "System.err", "Random", "Thread", "nanoTime", "currentTimeMillis", "Exact(", "hashCode",
        "toString", ".sort(", ".stream(", "Iterator", "HashMap", "TreeMap",
    };

    public static void main(String[] args) throws IOException {
        Checks checks = new Checks();
        lookAtFace(checks);
        lookAtMembers(checks);
        String source = args.length > 0 ? args[0] : "src/main/java/GranaryPartition.java";
        lookAtSource(checks, Files.readString(Path.of(source)));
        checks.end("FaceTest");
    }

    private static void lookAtFace(Checks checks) {
        Set<String> due = new TreeSet<>(List.of(FACE));
        Set<String> found = new TreeSet<>();
        for (Method method : GranaryPartition.class.getDeclaredMethods()) {
            if (!Modifier.isPrivate(method.getModifiers()) && !method.isSynthetic()) {
                found.add(asText(method));
            }
        }
        checks.due("the methods of the face", due, () -> found);
        checks.due("the class is public and final", true,
                () -> GranaryPartition.class.getModifiers() == (Modifier.PUBLIC | Modifier.FINAL));
        Constructor<?>[] constructors = GranaryPartition.class.getDeclaredConstructors();
        checks.due("there is one constructor", 1, () -> constructors.length);
        checks.due("it is public and takes nothing", true,
                () -> Modifier.isPublic(constructors[0].getModifiers()) && constructors[0].getParameterCount() == 0);
    }

    private static String asText(Method method) {
        StringBuilder text = new StringBuilder();
        text.append(method.getReturnType().getSimpleName()).append(' ').append(method.getName()).append('(');
        for (int i = 0; i < method.getParameterCount(); i++) {
            text.append(i == 0 ? "" : ",").append(method.getParameterTypes()[i].getSimpleName());
        }
        text.append(')');
        for (Class<?> thrown : method.getExceptionTypes()) {
            text.append(' ').append(thrown.getSimpleName());
        }
        return text.toString();
    }

    private static void lookAtMembers(Checks checks) {
        Set<String> faceNames = new TreeSet<>();
        for (String line : FACE) {
            faceNames.add(line.substring(line.indexOf(' ') + 1, line.indexOf('(')));
        }
        List<Class<?>> classes = new ArrayList<>(List.of(GranaryPartition.class.getDeclaredClasses()));
        checks.due("at most some twelve classes", true, () -> classes.size() < 12);
        for (Class<?> inside : classes) {
            int modifiers = inside.getModifiers();
            checks.due(inside + " is static and not public", true,
                    () -> Modifier.isStatic(modifiers) && !Modifier.isPublic(modifiers) && !Modifier.isProtected(modifiers));
        }
        for (Field field : GranaryPartition.class.getDeclaredFields()) {
            checks.due(field + " is private", true, () -> Modifier.isPrivate(field.getModifiers()));
        }
        classes.add(GranaryPartition.class);
        for (Class<?> owner : classes) {
            lookAtClass(checks, owner, faceNames);
        }
    }

    private static void lookAtClass(Checks checks, Class<?> owner, Set<String> faceNames) {
        int fields = 0;
        for (Field field : owner.getDeclaredFields()) {
            if (Modifier.isStatic(field.getModifiers())) {
                checks.due(field + " is final", true, () -> Modifier.isFinal(field.getModifiers()));
            } else {
                fields++;
            }
        }
        int many = fields;
        checks.due(owner + " has at most twenty fields", true, () -> many <= 20);
        for (Method method : owner.getDeclaredMethods()) {
            checkParameters(checks, method);
            boolean isFace = owner == GranaryPartition.class && Modifier.isPublic(method.getModifiers());
            checks.due(method + " does not bear a name of the face", true,
                    () -> isFace || !faceNames.contains(method.getName()));
        }
        for (Constructor<?> constructor : owner.getDeclaredConstructors()) {
            checkParameters(checks, constructor);
        }
    }

    private static void checkParameters(Checks checks, Executable member) {
        checks.due(((Member) member).getName() + " takes at most seven parameters", true,
                () -> member.getParameterCount() <= 7);
    }

    private static void lookAtSource(Checks checks, String source) {
        // Comments may hold any word.
        String code = source.replaceAll("(?s)/\\*.*?\\*/", "").replaceAll("//[^\n]*", "");
        for (String word : FORBIDDEN) {
            checks.due("the source is without " + word, -1, () -> code.indexOf(word));
        }
        checks.due("all signs are plain", true, () -> source.chars().allMatch(sign -> sign > 0 && sign < 128));
        Set<String> imports = new TreeSet<>();
        for (String line : code.split("\n")) {
            if (line.startsWith("import ")) {
                imports.add(line);
            }
        }
        checks.due("the imports", "[import java.util.ArrayList;, import java.util.List;, "
                + "import java.util.NoSuchElementException;]", () -> imports);
    }
}
