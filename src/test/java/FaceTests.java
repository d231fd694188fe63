import java.io.IOException;
import java.lang.reflect.Constructor;
import java.lang.reflect.Field;
import java.lang.reflect.Member;
import java.lang.reflect.Method;
import java.lang.reflect.Modifier;
import java.nio.file.Files;
import java.nio.file.Path;
import java.util.Arrays;
import java.util.List;
import java.util.Set;
import java.util.TreeSet;
import java.util.regex.Matcher;
import java.util.regex.Pattern;
import java.util.stream.Collectors;

/** The public face as the document has it, and rules of the language that can be read off. */
public final class FaceTests {
    private static final String[] METHODS = {
        "term 4", "about 3", "change 3", "clear 1", "shape 2", "corner 2", "mixed 0", "lift 3", "cells 0", "cell 2",
        "fine 0", "face 3", "lose 2", "keep 0", "two 1", "round 1", "answer 2", "told 1"};
    private static final String[] CONSTANTS = {"UNKNOWN -1", "OUTSIDE -2", "STATE -3", "FULL -4", "NO -5", "NONE -6"};
    private static final String[] BANNED = {
        "throw", "throws", "try", "catch", "synchronized", "assert", "import", "package", "protected", "System\\.out",
        "\\w+Exact", "->", "::", "Object", "equals", "hashCode", "toString"};

    private static int wrong = 0;

    private FaceTests() {
    }

    public static void main(String[] args) throws IOException, IllegalAccessException {
        same("class", Set.of("public final"), Set.of(Modifier.toString(RootShapes.class.getModifiers())));
        same("constructors", Set.of("0"), constructors());
        same("methods", new TreeSet<>(List.of(METHODS)), methods());
        same("constants", new TreeSet<>(List.of(CONSTANTS)), constants());
        hiddenMembers();
        room();
        source();
        System.out.println(wrong == 0 ? "the face is the document's" : wrong + " things of the face are wrong");
        if (wrong != 0) {
            System.exit(1);
        }
    }

    private static void same(String what, Set<String> want, Set<String> got) {
        if (!want.equals(got)) {
            say(what + " are " + got + ", due are " + want);
        }
    }

    private static void say(String what) {
        wrong++;
        System.out.println(what);
    }

    private static Set<String> constructors() {
        return Arrays.stream(RootShapes.class.getDeclaredConstructors())
            .filter(FaceTests::seen)
            .map(Constructor::getParameterCount)
            .map(String::valueOf)
            .collect(Collectors.toSet());
    }

    private static Set<String> methods() {
        Set<String> found = new TreeSet<>();
        for (Method m : RootShapes.class.getDeclaredMethods()) {
            if (seen(m)) {
                boolean plain = m.getReturnType() == int.class && !Modifier.isStatic(m.getModifiers())
                    && Arrays.stream(m.getParameterTypes()).allMatch(p -> p == int.class);
                found.add((plain ? "" : "not of ints: ") + m.getName() + " " + m.getParameterCount());
            }
        }
        return found;
    }

    private static Set<String> constants() throws IllegalAccessException {
        Set<String> found = new TreeSet<>();
        for (Field f : RootShapes.class.getDeclaredFields()) {
            if (seen(f)) {
                found.add(f.getName() + " " + f.get(null));
            }
        }
        return found;
    }

    private static boolean seen(Member m) {
        return !Modifier.isPrivate(m.getModifiers()) && !m.isSynthetic();
    }

    private static void hiddenMembers() {
        Set<String> names = Arrays.stream(METHODS).map(m -> m.split(" ")[0]).collect(Collectors.toSet());
        for (Class<?> inside : RootShapes.class.getDeclaredClasses()) {
            if (!Modifier.isStatic(inside.getModifiers()) || Modifier.isPublic(inside.getModifiers())) {
                say(inside + " is not static, or is public");
            }
            for (Method m : inside.getDeclaredMethods()) {
                if (names.contains(m.getName()) || m.getParameterCount() > 7) {
                    say(m + " bears a name of the face, or takes too many");
                }
            }
            staticFields(inside);
        }
        staticFields(RootShapes.class);
        for (Method m : RootShapes.class.getDeclaredMethods()) {
            if (!seen(m) && (names.contains(m.getName()) || m.getParameterCount() > 7)) {
                say(m + " bears a name of the face, or takes too many");
            }
        }
    }

    private static void staticFields(Class<?> of) {
        for (Field f : of.getDeclaredFields()) {
            if (Modifier.isStatic(f.getModifiers()) && !Modifier.isFinal(f.getModifiers())) {
                say(f + " is static and not final");
            }
        }
    }

    /** What an object is made of, fields and elements, times the calls of a run, is far below the room. */
    private static void room() throws IllegalAccessException {
        RootShapes x = new RootShapes();
        long[] counted = new long[2];
        count(x, counted);
        if (counted[0] > 100 || counted[1] > 4000) {
            say("an object is made of " + counted[0] + " objects with " + counted[1] + " fields and elements");
        }
    }

    private static void count(Object of, long[] counted) throws IllegalAccessException {
        counted[0]++;
        if (of.getClass().isArray()) {
            counted[1] += java.lang.reflect.Array.getLength(of);
            return;
        }
        for (Field f : of.getClass().getDeclaredFields()) {
            if (Modifier.isStatic(f.getModifiers())) {
                continue;
            }
            counted[1]++;
            f.setAccessible(true);
            if (!f.getType().isPrimitive() && f.get(of) != null) {
                count(f.get(of), counted);
            }
        }
    }

    private static void source() throws IOException {
        String text = Files.readString(Path.of("src/main/java/RootShapes.java"));
        String code = text.replaceAll("(?s)/\\*.*?\\*/", " ").replaceAll("//[^\n]*", " ");
        for (String banned : BANNED) {
            String edge = Character.isLetter(banned.charAt(0)) || banned.startsWith("\\w") ? "\\b" : "";
            Matcher m = Pattern.compile(edge + banned + edge).matcher(code);
            if (m.find()) {
                say("the source has " + m.group());
            }
        }
        // All rows are made once, as fields of the object.
        int made = 0;
        for (String line : code.split("\n")) {
            if (line.contains("new ")) {
                made++;
                if (!line.contains("final ")) {
                    say("made outside of a field: " + line.trim());
                }
            }
        }
        if (made == 0 || !text.chars().allMatch(c -> c < 256)) {
            say("the source was not read, or has characters above 255");
        }
    }
}
