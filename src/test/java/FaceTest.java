import java.io.IOException;
import java.lang.reflect.Constructor;
import java.lang.reflect.Field;
import java.lang.reflect.Method;
import java.lang.reflect.Modifier;
import java.nio.file.Files;
import java.nio.file.Path;
import java.util.Arrays;
import java.util.HashSet;
import java.util.List;
import java.util.Set;
import java.util.TreeSet;
import java.util.regex.Matcher;
import java.util.regex.Pattern;

/** The public face of the document, and the rules of LANGUAGE.md that can be seen from outside. */
public final class FaceTest {
    private static final Checks CHECKS = new Checks();
    private static final String INDEX = "IndexOutOfBoundsException";
    private static final String ARGUMENT = "IllegalArgumentException";
    private static final String STATE = "IllegalStateException";

    private static final String[] FACE = {
        face("int stretch int", ARGUMENT, STATE),
        face("int addChair int", ARGUMENT, STATE),
        face("int want int", ARGUMENT),
        face("int addLane", STATE),
        face("boolean shut int boolean", INDEX),
        face("int setWind int int", INDEX, ARGUMENT),
        face("int join int int int", INDEX, ARGUMENT, STATE),
        face("int change int int", INDEX, STATE),
        face("int leave int", INDEX, STATE),
        face("int group int int", INDEX),
        face("int chair int int", INDEX),
        face("int lane int int", INDEX),
        face("int queue int int", INDEX),
        face("int shed int", INDEX),
        face("int pass int", ARGUMENT),
        face("int count int", INDEX),
        face("int foresee int int", ARGUMENT, INDEX),
        face("int when int", INDEX),
        face("int advise int", ARGUMENT),
        face("int needs int int", ARGUMENT),
        face("double mean"),
        face("long digest"),
    };

    // What the interface says ahead of which calls.
    private static final String HEADED_FACE = "---- rope, chairs, lanes, wind: stretch addChair want addLane shut "
            + "setWind ---- groups: join change leave ---- what is there: group chair lane queue shed ---- steps: pass "
            + "count ---- looking ahead: foresee when advise needs mean digest ";

    public static void main(String[] args) throws IOException {
        theFaceIsThatOfTheDocument();
        theCallsStandUnderTheirHeads();
        nothingElseIsSeen();
        noStaticStateChanges();
        theSourceKeepsToTheRules();
        CHECKS.end();
    }

    private static String face(String call, String... exceptions) {
        return call + " throws " + Arrays.asList(exceptions);
    }

    private static void theFaceIsThatOfTheDocument() {
        Set<String> got = new TreeSet<>();
        for (Method method : ChairLift.class.getDeclaredMethods()) {
            if (Modifier.isPublic(method.getModifiers())) {
                got.add(faceOf(method));
            }
        }
        CHECKS.same("the face", got.toString(), new TreeSet<>(List.of(FACE)).toString());
        CHECKS.isTrue("the class is public and final",
                (ChairLift.class.getModifiers() & (Modifier.PUBLIC | Modifier.FINAL))
                == (Modifier.PUBLIC | Modifier.FINAL));
        Constructor<?>[] constructors = ChairLift.class.getDeclaredConstructors();
        CHECKS.same("constructors", constructors.length, 1);
        CHECKS.isTrue("it is public", Modifier.isPublic(constructors[0].getModifiers()));
        CHECKS.same("its parameters", constructors[0].getParameterCount(), 0);
    }

    private static void theCallsStandUnderTheirHeads() throws IOException {
        Pattern headOrCall = Pattern.compile("^ {4}(?:// (---- (?!helpers).*)|public \\w+ (\\w+)\\(.*)$",
                Pattern.MULTILINE);
        Matcher found = headOrCall.matcher(Files.readString(Path.of("src/main/java/ChairLift.java")));
        StringBuilder got = new StringBuilder();
        while (found.find()) {
            got.append(found.group(1) != null ? found.group(1) + ": " : found.group(2) + " ");
        }
        CHECKS.same("the heads and their calls", got.toString(), HEADED_FACE);
    }

    private static String faceOf(Method method) {
        StringBuilder text = new StringBuilder(method.getReturnType().getSimpleName() + " " + method.getName());
        for (Class<?> parameter : method.getParameterTypes()) {
            text.append(' ').append(parameter.getSimpleName());
        }
        String[] exceptions = new String[method.getExceptionTypes().length];
        for (int number = 0; number < exceptions.length; number++) {
            exceptions[number] = method.getExceptionTypes()[number].getSimpleName();
        }
        return face(text.toString(), exceptions);
    }

    private static void nothingElseIsSeen() {
        Set<String> open = new HashSet<>();
        Set<String> hidden = new HashSet<>();
        for (Method method : ChairLift.class.getDeclaredMethods()) {
            (Modifier.isPublic(method.getModifiers()) ? open : hidden).add(method.getName());
            CHECKS.isTrue(method + " is public or private",
                    (method.getModifiers() & (Modifier.PUBLIC | Modifier.PRIVATE)) != 0);
        }
        hidden.retainAll(open);
        CHECKS.same("private methods with a public name", hidden.size(), 0);
        for (Field field : ChairLift.class.getDeclaredFields()) {
            CHECKS.isTrue(field + " is private", Modifier.isPrivate(field.getModifiers()));
        }
        for (Class<?> inside : ChairLift.class.getDeclaredClasses()) {
            CHECKS.isTrue(inside + " is static and not public",
                    Modifier.isStatic(inside.getModifiers()) && !Modifier.isPublic(inside.getModifiers()));
        }
    }

    private static void noStaticStateChanges() {
        noStaticStateChangesIn(ChairLift.class);
        for (Class<?> inside : ChairLift.class.getDeclaredClasses()) {
            noStaticStateChangesIn(inside);
        }
    }

    private static void noStaticStateChangesIn(Class<?> owner) {
        int own = 0;
        for (Field field : owner.getDeclaredFields()) {
            boolean isStatic = Modifier.isStatic(field.getModifiers());
            own += isStatic ? 0 : 1;
            CHECKS.isTrue(field + " does not change", !isStatic
                    || Modifier.isFinal(field.getModifiers()) && field.getType().isPrimitive());
        }
        CHECKS.isTrue(owner + " has twenty fields at most", own <= 20);
    }

    private static void theSourceKeepsToTheRules() throws IOException {
        String source = Files.readString(Path.of("src/main/java/ChairLift.java"));
        for (char sign : source.toCharArray()) {
            if (sign > 126) {
                CHECKS.report("the source has the sign " + (int) sign);
            }
        }
        Pattern notCode = Pattern.compile("//[^\n]*|/\\*.*?\\*/|\"[^\"\n]*\"", Pattern.DOTALL);
        String code = notCode.matcher(source).replaceAll("");
        for (String word : new String[] {"import", "package", "try", "catch", "finally", "assert", "synchronized",
            "instanceof", "System\\.(?!arraycopy)\\w+", "Thread", "\\w+Exact", "->", "::", "\\+ \""}) {
            boolean isWord = Character.isLetter(word.charAt(0));
            CHECKS.isTrue("no " + word, !Pattern.compile(isWord ? "\\b" + word + "\\b" : word).matcher(code).find());
        }
        methodsAreShort(code);
    }

    private static void methodsAreShort(String code) {
        int lines = 0;
        int longest = 0;
        for (String line : code.split("\n")) {
            boolean isHead = line.matches(" {4}(?: {4})?[\\w\\[\\] ]+\\(.*") && !line.contains(" new ");
            lines = isHead ? 1 : lines + 1;
            longest = line.matches(" {4}(?: {4})?}") && lines > longest ? lines : longest;
        }
        CHECKS.isTrue("no method is longer than 60 lines", longest > 10 && longest <= 60);
    }
}
