import java.lang.reflect.Constructor;
import java.lang.reflect.Field;
import java.lang.reflect.Method;
import java.lang.reflect.Modifier;
import java.util.Arrays;
import java.util.TreeSet;

/** The public face is the document's, and nothing besides. */
public final class FaceTest {
    private static final String[] METHODS = {
        "int input(int,int)", "int fixed(int)", "int work(int,int,int)", "int cut(int)", "int bits(int,int)",
        "int rounding(int,int)", "int weight(int,int)", "long about(int,int)", "int price()", "int set(int,int)",
        "int enter(int,double)", "long exact(int)", "long tuned(int)", "long miss(int)", "double leave(int)",
        "float narrow(int)", "int rows()", "long worst(int)", "int worstAt(int)", "int above(int,long)",
        "int least(int,long)", "int trim(int,long)", "long floor(int)", "long gain(int,int)", "int blame(int)",
        "int count(int)", "long digest()"
    };

    public static void main(String[] args) {
        methods();
        constants();
        constructors();
        Check.finish();
    }

    private static void methods() {
        TreeSet<String> found = new TreeSet<>();
        TreeSet<String> privateNames = new TreeSet<>();
        TreeSet<String> publicNames = new TreeSet<>();
        for (Method method : BitTuner.class.getDeclaredMethods()) {
            if (Modifier.isPrivate(method.getModifiers()) || method.isSynthetic()) {
                privateNames.add(method.getName());
            } else {
                Check.holds(method + " is public, no static", Modifier.isPublic(method.getModifiers())
                        && !Modifier.isStatic(method.getModifiers()));
                publicNames.add(method.getName());
                String types = Arrays.toString(Arrays.stream(method.getParameterTypes()).map(Class::getName).toArray());
                String inside = types.substring(1, types.length() - 1).replace(" ", "");
                found.add(method.getReturnType().getName() + " " + method.getName() + "(" + inside + ")");
            }
        }
        Check.holds("the methods " + found, found.equals(new TreeSet<>(Arrays.asList(METHODS))));
        privateNames.retainAll(publicNames);
        Check.holds("no private method bears a public name " + privateNames, privateNames.isEmpty());
    }

    private static void constants() {
        Check.due("NONE", BitTuner.NONE, -1);
        Check.due("BAD", BitTuner.BAD, -2);
        Check.due("FULL", BitTuner.FULL, -3);
        Check.due("BEYOND", BitTuner.BEYOND, -4);
        Check.due("NOT", BitTuner.NOT, -5);
        TreeSet<String> found = new TreeSet<>();
        for (Field field : BitTuner.class.getDeclaredFields()) {
            if (!Modifier.isPrivate(field.getModifiers())) {
                found.add(field.getName());
            }
        }
        Check.holds("the fields " + found,
                found.equals(new TreeSet<>(Arrays.asList("NONE", "BAD", "FULL", "BEYOND", "NOT"))));
    }

    private static void constructors() {
        Constructor<?>[] all = BitTuner.class.getDeclaredConstructors();
        Check.due("constructors", all.length, 1);
        Check.due("its parameters", all[0].getParameterCount(), 0);
        Check.holds("it is public", Modifier.isPublic(all[0].getModifiers()));
        Check.holds("the class is public and final", Modifier.isPublic(BitTuner.class.getModifiers())
                && Modifier.isFinal(BitTuner.class.getModifiers()));
    }
}
