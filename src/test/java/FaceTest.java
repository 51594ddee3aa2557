import java.io.IOException;
import java.lang.reflect.Constructor;
import java.lang.reflect.Field;
import java.lang.reflect.Member;
import java.lang.reflect.Method;
import java.lang.reflect.Modifier;
import java.nio.file.Files;
import java.nio.file.Path;
import java.util.ArrayList;
import java.util.Arrays;
import java.util.List;
import java.util.Set;
import java.util.TreeSet;
import java.util.regex.Matcher;
import java.util.regex.Pattern;

/** The document's face and the rules of LANGUAGE.md, as far as a machine can see them (from the project's directory). */
final class FaceTest {
    private static final Class<?> ITSELF = PrisonWeddings.class;
    private static final Set<String> FACE = Set.of(
        "int write(int)", "int wipe()", "int fault()", "int lay()", "int person(int,int)", "int parson(int,int)",
        "int line(int,int,int)", "int wed(int,int,int)", "int leave(int)", "int fill(int,int,int,int)", "int strike(int,int)",
        "int pass(int)", "int undo()", "int mate(int,int)", "int twice()", "int falseOnes()", "int date(int,int,int)",
        "int look(int)", "int can(int)", "int see(int,int,int,boolean)", "int forget()", "int trueBy(int)", "int hand(int,int)",
        "int child(int,int)", "int touts(int,int,int)", "int gaol(int,int,int)", "int keep()", "int back()", "int count(int)");
    private static final Set<Class<?>> PLAIN = Set.of(int.class, long.class, short.class, byte.class, char.class, boolean.class,
        String.class);
    // What is written behind a dot ahead of a bracket, but for methods of the class's own.
    private static final Set<String> LIBRARY = Set.of("length", "charAt", "bitCount", "min", "arraycopy");
    private static final Set<String> IMPORTS = Set.of("java.util.ArrayList", "java.util.List", "java.util.Arrays",
        "java.util.Iterator", "java.util.NoSuchElementException");
    private static final Pattern HEAD = Pattern.compile(" +(?:[\\w\\[\\]]+ )*(\\w+)\\([\\w\\[\\], ]*\\) \\{");
    private static final Due due = new Due();

    private FaceTest() { }

    public static void main(String[] args) throws IOException, IllegalAccessException {
        due.part("rule 1");
        face();
        constants();
        insides();
        due.part("rule 5");
        statics();
        due.part("rule 11");
        sizes();
        source(Files.readString(Path.of("src/main/java/PrisonWeddings.java")));
        due.close("FaceTest");
    }

    private static void isTrue(String what, boolean so) {
        due.same(what, so ? 1 : 0, 1);
    }

    private static boolean isOwn(Member member) {
        return !member.isSynthetic();
    }

    private static void face() {
        isTrue("public and final, without a package",
            Modifier.isPublic(ITSELF.getModifiers()) && Modifier.isFinal(ITSELF.getModifiers()) && ITSELF.getPackageName().isEmpty());
        isTrue("of no other class, no interface", ITSELF.getSuperclass() == Object.class && ITSELF.getInterfaces().length == 0);
        Constructor<?>[] makers = ITSELF.getDeclaredConstructors();
        isTrue("one public constructor without arguments",
            makers.length == 1 && Modifier.isPublic(makers[0].getModifiers()) && makers[0].getParameterCount() == 0);
        isTrue("the constructor throws nothing", makers[0].getExceptionTypes().length == 0);
        Set<String> open = new TreeSet<>(), closed = new TreeSet<>(), names = new TreeSet<>();
        for (Method method : ITSELF.getDeclaredMethods()) {
            if (Modifier.isPublic(method.getModifiers())) {
                open.add(told(method));
                names.add(method.getName());
                isTrue(method + ": of an object", !Modifier.isStatic(method.getModifiers()));
                isTrue(method + ": throws nothing", method.getExceptionTypes().length == 0);
            } else if (isOwn(method)) {
                isTrue(method + ": private", Modifier.isPrivate(method.getModifiers()));
                closed.add(method.getName());
            }
        }
        isTrue("the document's methods and no other: " + open, open.equals(new TreeSet<>(FACE)));
        closed.retainAll(names);
        isTrue("private methods with a public one's name: " + closed, closed.isEmpty());
    }

    private static String told(Method method) {
        List<String> types = new ArrayList<>();
        for (Class<?> type : method.getParameterTypes()) {
            types.add(type.getName());
        }
        return method.getReturnType().getName() + " " + method.getName() + "(" + String.join(",", types) + ")";
    }

    private static void constants() throws IllegalAccessException {
        Set<String> open = new TreeSet<>();
        for (Field field : ITSELF.getDeclaredFields()) {
            int how = field.getModifiers();
            if (Modifier.isPublic(how)) {
                open.add(field.getName());
                isTrue(field + ": a constant of int",
                    Modifier.isStatic(how) && Modifier.isFinal(how) && field.getType() == int.class);
            } else if (isOwn(field)) {
                isTrue(field + ": private", Modifier.isPrivate(how));
            }
        }
        due.same("constants that are open", open.size(), 4);
        due.same("BAD", PrisonWeddings.BAD, -1);
        due.same("NO", PrisonWeddings.NO, -2);
        due.same("FULL", PrisonWeddings.FULL, -3);
        due.same("NONE", PrisonWeddings.NONE, -4);
    }

    private static void insides() {
        for (Class<?> inside : ITSELF.getDeclaredClasses()) {
            int how = inside.getModifiers();
            isTrue(inside + ": static, neither public nor protected",
                Modifier.isStatic(how) && !Modifier.isPublic(how) && !Modifier.isProtected(how));
            isTrue(inside + ": of no class of the library", inside.getSuperclass() == Object.class);
            for (Method method : inside.getDeclaredMethods()) {
                isTrue(method + ": no equals, hashCode, toString",
                    !Set.of("equals", "hashCode", "toString").contains(method.getName()));
            }
        }
    }

    private static List<Class<?>> all() {
        List<Class<?>> classes = new ArrayList<>(Arrays.asList(ITSELF.getDeclaredClasses()));
        classes.add(ITSELF);
        return classes;
    }

    private static void statics() {
        for (Class<?> one : all()) {
            for (Field field : one.getDeclaredFields()) {
                if (isOwn(field) && Modifier.isStatic(field.getModifiers())) {
                    isTrue(field + ": a final constant of numbers or a text",
                        Modifier.isFinal(field.getModifiers()) && PLAIN.contains(field.getType()));
                }
            }
        }
    }

    private static void sizes() {
        isTrue("twelve classes at most", all().size() <= 12);
        for (Class<?> one : all()) {
            int fields = 0;
            for (Field field : one.getDeclaredFields()) {
                fields += isOwn(field) && !Modifier.isStatic(field.getModifiers()) ? 1 : 0;
                isTrue(field + ": rule 3", isOfTheRules(field.getType()));
            }
            isTrue(one + ": twenty fields at most", fields <= 20);
            for (Method method : one.getDeclaredMethods()) {
                isTrue(method + ": seven numbers at most", method.getParameterCount() <= 7);
            }
        }
    }

    private static boolean isOfTheRules(Class<?> type) {
        Class<?> part = type.isArray() ? type.getComponentType() : type;
        return PLAIN.contains(part) || all().contains(part);
    }

    private static void source(String page) {
        due.part("source");
        isTrue("ASCII alone", page.chars().allMatch(sign -> sign == '\n' || sign >= 32 && sign < 127));
        String code = page.replaceAll("(?s)/\\*.*?\\*/", "").replaceAll("//[^\n]*", "").replaceAll("\"[^\"]*\"", "\"\"");
        Matcher imported = Pattern.compile("import ([^;]*);").matcher(code);
        while (imported.find()) {
            isTrue("rule 4: import " + imported.group(1), IMPORTS.contains(imported.group(1)));
        }
        // The document asks for no exception, so the class has no need of these either.
        for (String word : List.of("try", "catch", "throw", "throws", "finally", "package", "synchronized", "assert", "native")) {
            isTrue("the word " + word + " does not stand there", !Pattern.compile("\\b" + word + "\\b").matcher(code).find());
        }
        for (String sign : List.of("->", "::", "@", "...", "equals(", "static {", "while (true)", "for (;;)")) {
            isTrue("the sign " + sign + " does not stand there", !code.contains(sign));
        }
        callsOfTheLibrary(code);
        madeInConstructors(code);
        lengthsOfMethods(code);
    }

    /** Rule 4: behind a dot stand methods of the class's own, or of the library's list. */
    private static void callsOfTheLibrary(String code) {
        Set<String> own = new TreeSet<>(LIBRARY);
        for (Class<?> one : all()) {
            for (Method method : one.getDeclaredMethods()) {
                own.add(method.getName());
            }
        }
        Matcher call = Pattern.compile("\\.(\\w+)\\(").matcher(code);
        while (call.find()) {
            isTrue("rule 4: " + call.group(1), own.contains(call.group(1)));
        }
    }

    /** Rule 12, and the ONE room of all calls: what is made is made for a field, or in a constructor. */
    private static void madeInConstructors(String code) {
        String method = "";
        for (String line : code.split("\n")) {
            Matcher head = HEAD.matcher(line);
            method = head.matches() ? head.group(1) : method;
            if (line.contains("new ")) {
                boolean isMade = line.matches(" +final [\\w\\[\\]]+ \\w+ = new .*") || Character.isUpperCase(method.charAt(0));
                isTrue("makes in " + method + ": " + line.trim(), isMade);
            }
        }
    }

    /** Rule 11: sixty lines at most. */
    private static void lengthsOfMethods(String code) {
        int methods = 0;
        String[] lines = code.split("\n");
        for (int i = 0; i < lines.length; i++) {
            Matcher head = HEAD.matcher(lines[i]);
            if (head.matches()) {
                String end = lines[i].replaceAll("\\S.*", "") + "}";
                int last = i;
                while (last < lines.length && !lines[last].equals(end)) {
                    last++;
                }
                isTrue("rule 11: " + head.group(1) + " has " + (last - i + 1) + " lines", last - i < 60);
                methods++;
            }
        }
        int there = 0;
        for (Class<?> one : all()) {
            for (Method method : one.getDeclaredMethods()) {
                there += isOwn(method) ? 1 : 0;
            }
        }
        isTrue("finds each of " + there + " methods (and the constructors): " + methods, methods >= there);
    }
}
