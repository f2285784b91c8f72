import java.io.IOException;
import java.lang.reflect.Array;
import java.lang.reflect.Field;
import java.lang.reflect.Method;
import java.lang.reflect.Modifier;
import java.nio.file.Files;
import java.nio.file.Path;
import java.util.ArrayList;
import java.util.Collections;
import java.util.HashSet;
import java.util.IdentityHashMap;
import java.util.List;
import java.util.Set;
import java.util.regex.Matcher;
import java.util.regex.Pattern;

/** The rules of LANGUAGE.md that the class or its text shows; run from the project's folder. */
public final class RulesTest {
    private static final String[] FORBIDDEN = {
        "\\bcatch\\b", "\\btry\\b", "\\bfinally\\b", "\\bthrow\\b", "\\bsynchronized\\b", "\\bassert\\b", "->", "::",
        "\\bimport\\b", "\\bpackage\\b", "\\bprotected\\b", "Exact\\s*\\(", "\\bhashCode\\b", "\\btoString\\b",
        "\\bequals\\b", "System\\.(?!arraycopy)", "Math\\.(?!max|min|abs)", "static\\s*\\{", "\\bnative\\b",
        "while\\s*\\(\\s*true", "for\\s*\\(\\s*;\\s*;", "\\[\\]\\s*\\[\\]\\s*\\["
    };

    public static void main(String[] args) throws IOException {
        String text = Files.readString(Path.of("src/main/java/BitTuner.java"));
        String code = withoutComments(text);
        for (String forbidden : FORBIDDEN) {
            Matcher found = Pattern.compile(forbidden).matcher(code);
            Check.holds("no " + forbidden, !found.find());
        }
        Check.holds("plain signs", text.chars().allMatch(c -> c == '\n' || c >= 32 && c < 127));
        Check.holds("some twelve classes", count(code, "\\b(class|enum|record|interface)\\s+\\w+") <= 12);
        shortMethods(code);
        madeOnlyByConstructors(code);
        classesInside();
        room();
        Check.finish();
    }

    private static String withoutComments(String text) {
        return text.replaceAll("(?s)/\\*.*?\\*/", "").replaceAll("//[^\n]*", "");
    }

    private static int count(String code, String pattern) {
        int found = 0;
        Matcher matcher = Pattern.compile(pattern).matcher(code);
        while (matcher.find()) {
            found++;
        }
        return found;
    }

    /** Heads of methods and constructors, with the lines up to the brace that ends them. */
    private static void shortMethods(String code) {
        List<String> lines = new ArrayList<>(List.of(code.split("\n")));
        Pattern head = Pattern.compile("^( +)[\\w\\[\\] ]*\\w+\\(([^()]*)\\) \\{$");
        for (int i = 0; i < lines.size(); i++) {
            Matcher found = head.matcher(lines.get(i));
            boolean isHead = found.matches() && !lines.get(i).trim().matches("(if|for|while|switch|\\}).*");
            if (isHead) {
                int end = lines.subList(i, lines.size()).indexOf(found.group(1) + "}");
                Check.holds("at most 60 lines: " + lines.get(i).trim(), end > 0 && end <= 60);
                Check.holds("at most 7 parameters: " + lines.get(i).trim(), found.group(2).split(",").length <= 7);
            }
        }
    }

    /** All rows are made once, so no run of calls can fill the room. */
    private static void madeOnlyByConstructors(String code) {
        int inAll = count(code, "\\bnew\\b");
        int inConstructors = 0;
        Matcher constructor = Pattern.compile("(?s)\\n( +)(?:public )?(BitTuner|Program|Runs|Widths)\\([^)]*\\) \\{"
                + ".*?\\n\\1\\}").matcher(code);
        while (constructor.find()) {
            inConstructors += count(constructor.group(), "\\bnew\\b");
        }
        Check.due("objects made outside constructors", inAll - inConstructors, 0);
    }

    private static List<Class<?>> allClasses() {
        List<Class<?>> all = new ArrayList<>(List.of(BitTuner.class.getDeclaredClasses()));
        all.add(BitTuner.class);
        return all;
    }

    /** Rules 1, 5 and 11, for the public class and for those inside it. */
    private static void classesInside() {
        Set<String> face = new HashSet<>();
        for (Method method : BitTuner.class.getMethods()) {
            face.add(method.getName());
        }
        for (Class<?> one : allClasses()) {
            if (one != BitTuner.class) {
                Check.holds(one + " is static and not seen outside", Modifier.isStatic(one.getModifiers())
                        && !Modifier.isPublic(one.getModifiers()) && !Modifier.isProtected(one.getModifiers()));
                for (Method method : one.getDeclaredMethods()) {
                    Check.holds(method + " bears no name of the face", !face.contains(method.getName()));
                }
            }
            int ownFields = 0;
            for (Field field : one.getDeclaredFields()) {
                boolean isStatic = Modifier.isStatic(field.getModifiers());
                Check.holds(field + " is final if it is static", !isStatic || Modifier.isFinal(field.getModifiers()));
                ownFields += isStatic ? 0 : 1;
            }
            Check.holds(one + " has some twenty fields at most", ownFields <= 20);
        }
    }

    /** What one object takes, all in all: a run may make thousands before its room is full. */
    private static void room() {
        Set<Object> objects = Collections.newSetFromMap(new IdentityHashMap<>());
        int elements = reach(new BitTuner(), objects);
        Check.holds("few objects in one: " + objects.size(), objects.size() <= 40);
        Check.holds("few fields and elements in one: " + elements, elements <= 500);
    }

    /** The fields and elements of this object, and of all that it leads to. */
    private static int reach(Object from, Set<Object> objects) {
        if (from == null || !objects.add(from)) {
            return 0;
        }
        if (from.getClass().isArray()) {
            int elements = Array.getLength(from);
            for (int i = 0; i < Array.getLength(from) && from instanceof Object[]; i++) {
                elements += reach(Array.get(from, i), objects);
            }
            return elements;
        }
        int fields = 0;
        for (Field field : from.getClass().getDeclaredFields()) {
            if (!Modifier.isStatic(field.getModifiers())) {
                fields += 1 + (field.getType().isPrimitive() ? 0 : reach(held(field, from), objects));
            }
        }
        return fields;
    }

    private static Object held(Field field, Object from) {
        try {
            field.setAccessible(true);
            return field.get(from);
        } catch (IllegalAccessException e) {
            throw new IllegalStateException(e);
        }
    }
}
