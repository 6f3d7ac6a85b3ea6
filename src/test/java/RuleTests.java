import java.io.IOException;
import java.lang.reflect.Array;
import java.lang.reflect.Constructor;
import java.lang.reflect.Field;
import java.lang.reflect.Method;
import java.lang.reflect.Modifier;
import java.nio.file.Files;
import java.nio.file.Path;
import java.util.IdentityHashMap;
import java.util.Map;
import java.util.Set;
import java.util.TreeSet;
import java.util.regex.Matcher;
import java.util.regex.Pattern;

/** The class's face, the rules of the language that can be seen from outside, and how much room an object takes. */
public final class RuleTests {
    private static final Path SOURCE = Path.of("src/main/java/FloodBasins.java");
    private static final Set<String> METHODS = Set.of("land 2", "wave 4", "heap 4", "put 3", "mark 3", "pits 0", "dot 3",
        "bound 2", "basin 2", "pass 2", "poured 2", "tree 2", "over 4", "wet 4", "count 1", "image 1", "restore 1");
    private static final Map<String, Integer> CONSTANTS = Map.of("UNKNOWN", -1, "OUTSIDE", -2, "STATE", -3, "NONE", -6);
    // A run of 512 calls that makes an object each time still fits into the room.
    private static final int MOST_OBJECTS = 600_000 / 512;
    private static final int MOST_ELEMENTS = 7_300_000 / 512;

    private static int wrong = 0;
    private static int objects = 0;
    private static int elements = 0;

    public static void main(String[] args) throws ReflectiveOperationException, IOException {
        checkMembers();
        checkConstants();
        checkClassesInside();
        checkWords(Files.readString(SOURCE));
        checkRoom();
        System.out.println(wrong == 0 ? "all rules are kept" : wrong + " rules are not kept");
        if (wrong != 0) {
            System.exit(1);
        }
    }

    private static void must(boolean kept, String rule) {
        if (!kept) {
            wrong++;
            System.out.println("not kept: " + rule);
        }
    }

    private static void checkMembers() {
        Class<?> face = FloodBasins.class;
        must(Modifier.isPublic(face.getModifiers()) && Modifier.isFinal(face.getModifiers()), "the class is public and final");
        Constructor<?>[] constructors = face.getDeclaredConstructors();
        must(constructors.length == 1 && constructors[0].getParameterCount() == 0
            && Modifier.isPublic(constructors[0].getModifiers()), "one public constructor without parameters");
        Set<String> found = new TreeSet<>();
        for (Method method : face.getDeclaredMethods()) {
            boolean isPublic = Modifier.isPublic(method.getModifiers());
            must(isPublic || Modifier.isPrivate(method.getModifiers()), method + " is public or private");
            if (isPublic) {
                found.add(method.getName() + " " + method.getParameterCount());
                must(method.getReturnType() == int.class && !Modifier.isStatic(method.getModifiers()), method + " answers an int");
                for (Class<?> type : method.getParameterTypes()) {
                    must(type == int.class, method + " takes ints");
                }
            }
        }
        must(found.equals(new TreeSet<>(METHODS)), "the public methods are the document's, not " + found);
        for (Method method : face.getDeclaredMethods()) {
            must(Modifier.isPublic(method.getModifiers()) || !isPublicName(method.getName()), method + " bears a name of its own");
        }
    }

    private static boolean isPublicName(String name) {
        return METHODS.stream().anyMatch(method -> method.startsWith(name + " "));
    }

    private static void checkConstants() throws IllegalAccessException {
        int found = 0;
        for (Field field : FloodBasins.class.getDeclaredFields()) {
            if (Modifier.isPublic(field.getModifiers())) {
                found++;
                must(CONSTANTS.containsKey(field.getName()) && Modifier.isStatic(field.getModifiers())
                    && Modifier.isFinal(field.getModifiers()) && field.getInt(null) == CONSTANTS.get(field.getName()),
                    field + " is a constant of the document");
            } else {
                must(Modifier.isPrivate(field.getModifiers()), field + " is private");
            }
            must(!Modifier.isStatic(field.getModifiers()) || Modifier.isFinal(field.getModifiers()) && field.getType() == int.class,
                field + " is of the object, or a constant of int");
        }
        must(found == CONSTANTS.size(), "every constant is there");
    }

    private static void checkClassesInside() {
        Class<?>[] inside = FloodBasins.class.getDeclaredClasses();
        must(inside.length < 12, "at most some twelve classes");
        for (Class<?> type : inside) {
            int modifiers = type.getModifiers();
            must(Modifier.isStatic(modifiers) && !Modifier.isPublic(modifiers) && !Modifier.isProtected(modifiers), type + " is static and not public");
            must(type.getDeclaredFields().length <= 20, type + " has at most some twenty fields");
            for (Method method : type.getDeclaredMethods()) {
                must(method.getParameterCount() <= 7, method + " takes at most seven");
                must(!isPublicName(method.getName()), method + " bears a name of its own");
            }
            for (Field field : type.getDeclaredFields()) {
                must(!Modifier.isStatic(field.getModifiers()), field + " is no static state");
            }
        }
    }

    private static void checkWords(String source) {
        for (char sign : source.toCharArray()) {
            must(sign == '\n' || sign >= 32 && sign < 127, "plain signs alone");
        }
        String code = source.replaceAll("(?s)/\\*.*?\\*/", "").replaceAll("//[^\n]*", "");
        for (String word : new String[] {"throw", "throws", "try", "catch", "synchronized", "assert", "protected", "package",
            "double", "float", "Thread", "Random", "hashCode", "toString"}) {
            must(!Pattern.compile("\\b" + word + "\\b").matcher(code).find(), "no word '" + word + "'");
        }
        must(!code.contains("->") && !code.contains("::") && !code.contains("@"), "no lambda, no method reference, no annotation");
        must(code.replaceAll("import java\\.util\\.Arrays;", "").indexOf("import ") < 0, "nothing but Arrays is imported");
        Matcher library = Pattern.compile("\\b(Arrays|System|Math)\\.(\\w+)").matcher(code);
        while (library.find()) {
            must(Set.of("fill", "arraycopy", "max", "min", "abs").contains(library.group(2)), library.group() + " is of the library's list");
        }
        for (String line : code.split("\n")) {
            must(!line.contains("new ") || line.contains("private final ") || line.matches(" +final .*"),
                "rows are made with the object alone: " + line.trim());
        }
        checkLengths(code);
    }

    private static void checkLengths(String code) {
        String[] lines = code.split("\n");
        for (int start = 0; start < lines.length; start++) {
            Matcher head = Pattern.compile("^( +)(?!.*\\bclass\\b)[\\w\\[\\] ]+\\(.*\\) \\{$").matcher(lines[start]);
            if (!head.matches() || lines[start].matches(" +(if|for|while|switch|else).*")) {
                continue;
            }
            int end = start;
            while (end < lines.length && !lines[end].equals(head.group(1) + "}")) {
                end++;
            }
            must(end - start < 60, "at most some sixty lines: " + lines[start].trim());
        }
    }

    private static void checkRoom() throws IllegalAccessException {
        FloodBasins basins = new FloodBasins();
        basins.land(12, 12);
        basins.wave(1, 1, 0, 2);
        basins.pits();
        basins.bound(0, 2000);
        basins.tree(0, 0);
        basins.image(0);
        basins.image(1);
        measure(basins, new IdentityHashMap<>());
        must(objects <= MOST_OBJECTS, "an object is of few objects, not " + objects);
        must(elements <= MOST_ELEMENTS, "an object is of few elements, not " + elements);
    }

    private static void measure(Object object, Map<Object, Boolean> seen) throws IllegalAccessException {
        if (object == null || seen.put(object, true) != null) {
            return;
        }
        objects++;
        if (object.getClass().isArray()) {
            elements += Array.getLength(object);
            if (object instanceof Object[] parts) {
                for (Object part : parts) {
                    measure(part, seen);
                }
            }
            return;
        }
        for (Field field : object.getClass().getDeclaredFields()) {
            if (Modifier.isStatic(field.getModifiers())) {
                continue;
            }
            elements++;
            if (!field.getType().isPrimitive()) {
                field.setAccessible(true);
                measure(field.get(object), seen);
            }
        }
    }
}
