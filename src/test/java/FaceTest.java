import java.lang.reflect.Constructor;
import java.lang.reflect.Field;
import java.lang.reflect.Method;
import java.lang.reflect.Modifier;
import java.util.Arrays;
import java.util.TreeSet;
import java.util.regex.Matcher;
import java.util.regex.Pattern;

/** The public face is the one that the document tells, and nothing besides. */
public final class FaceTest {
    private static final Pattern FACE = Pattern.compile("## The public face ```java (.*?) ```");
    private static final Pattern METHOD = Pattern.compile("public (int|long|double|float) (\\w+)\\(([^)]*)\\);");
    private static final Pattern PARAMETER = Pattern.compile("(\\w+) \\w+(?:, )?");

    public static void main(String[] args) {
        methods(methodsOfDocument());
        constants();
        constructors();
        Check.finish();
    }

    /** As "int input(int,int)". */
    private static TreeSet<String> methodsOfDocument() {
        TreeSet<String> told = new TreeSet<>();
        Matcher face = FACE.matcher(Sentence.document());
        Check.holds("that the document tells a face", face.find());
        Matcher method = METHOD.matcher(face.group(1));
        while (method.find()) {
            String types = PARAMETER.matcher(method.group(3)).replaceAll("$1,").replaceAll(",$", "");
            told.add(method.group(1) + " " + method.group(2) + "(" + types + ")");
        }
        Check.due("methods that the document tells, one for each promise but the first", told.size(), 27);
        return told;
    }

    private static void methods(TreeSet<String> told) {
        TreeSet<String> found = new TreeSet<>();
        TreeSet<String> privateNames = new TreeSet<>();
        TreeSet<String> publicNames = new TreeSet<>();
        for (Method method : BitTuner.class.getDeclaredMethods()) {
            if (Modifier.isPrivate(method.getModifiers()) || method.isSynthetic()) {
                privateNames.add(method.getName());
            } else {
                Check.holds(method + " is public, no static", Modifier.isPublic(method.getModifiers())
                        && !Modifier.isStatic(method.getModifiers()));
                publicNames.add(method.getName());
                String types = Arrays.toString(Arrays.stream(method.getParameterTypes()).map(Class::getName).toArray());
                String inside = types.substring(1, types.length() - 1).replace(" ", "");
                found.add(method.getReturnType().getName() + " " + method.getName() + "(" + inside + ")");
            }
        }
        Check.holds("the methods " + found + ", told " + told, found.equals(told));
        privateNames.retainAll(publicNames);
        Check.holds("no private method bears a public name " + privateNames, privateNames.isEmpty());
    }

    private static void constants() {
        Check.due("NONE", BitTuner.NONE, -1);
        Check.due("BAD", BitTuner.BAD, -2);
        Check.due("FULL", BitTuner.FULL, -3);
        Check.due("BEYOND", BitTuner.BEYOND, -4);
        Check.due("NOT", BitTuner.NOT, -5);
        TreeSet<String> found = new TreeSet<>();
        for (Field field : BitTuner.class.getDeclaredFields()) {
            if (!Modifier.isPrivate(field.getModifiers())) {
                found.add(field.getName());
            }
        }
        Check.holds("the fields " + found,
                found.equals(new TreeSet<>(Arrays.asList("NONE", "BAD", "FULL", "BEYOND", "NOT"))));
    }

    private static void constructors() {
        Constructor<?>[] all = BitTuner.class.getDeclaredConstructors();
        Check.due("constructors", all.length, 1);
        Check.due("its parameters", all[0].getParameterCount(), 0);
        Check.holds("it is public", Modifier.isPublic(all[0].getModifiers()));
        Check.holds("the class is public and final", Modifier.isPublic(BitTuner.class.getModifiers())
                && Modifier.isFinal(BitTuner.class.getModifiers()));
    }
}
