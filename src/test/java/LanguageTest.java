import java.io.IOException;
import java.lang.reflect.Constructor;
import java.lang.reflect.Field;
import java.lang.reflect.Method;
import java.lang.reflect.Modifier;
import java.nio.file.Files;
import java.nio.file.Path;
import java.util.ArrayList;
import java.util.Arrays;
import java.util.List;
import java.util.Set;
import java.util.TreeSet;
import java.util.regex.Matcher;
import java.util.regex.Pattern;

/** The public face, and those rules of LANGUAGE.md that a program can look for. */
public final class LanguageTest {
    private static final Path SOURCE = Path.of("src/main/java/SquareFolds.java");
    private static final String[] FACE = {
        "int write(int)", "int wipe()", "int fault()", "int surface()", "int about(int)", "int go(int,int)",
        "int walk(int,int)", "int square(int,int)", "long name(int,int)", "int shear(int)", "int trade(int,int)",
        "int undo()", "int orbit(int,int)", "int alike(int,int,int)", "int judge(int,long)",
        "int share(int,boolean)", "int see(int,int)", "int unsee()", "int which()", "int opens(int,boolean)",
        "long seed(long)", "int drawn(int)", "int keep(int)", "int again(int)"};
    private static final String[] RULED_OUT = {
        "\\bthrow", "\\btry\\b", "\\bcatch\\b", "\\bsynchronized\\b", "\\bassert\\b", "->", "::", "\\bprotected\\b",
        "Exact\\(", "\\bimport\\b", "\\bpackage\\b", "\\bMath\\.random", "\\bSystem\\.(?!arraycopy)", "\\bThread\\b",
        "\\bObject\\b", "@", "\\bwhile\\s*\\(\\s*true", "for\\s*\\(\\s*;\\s*;", "\\bvar\\b", "\\bhashCode\\b",
        "\\btoString\\b", "\\bequals\\b", "\"", "\\bstatic\\s*\\{"};

    private static final Due DUE = new Due();

    public static void main(String[] args) throws IOException {
        face();
        members();
        List<Class<?>> all = new ArrayList<>(List.of(SquareFolds.class));
        all.addAll(Arrays.asList(SquareFolds.class.getDeclaredClasses()));
        DUE.holds("at most twelve classes", all.size() <= 12);
        for (Class<?> type : all) {
            rulesOf(type);
        }
        String code = Files.readString(SOURCE).replaceAll("(?s)/\\*.*?\\*/", "").replaceAll("//[^\n]*", "");
        for (String form : RULED_OUT) {
            Matcher matcher = Pattern.compile(form).matcher(code);
            DUE.holds("no " + form + " in the code", !matcher.find());
        }
        readerSees();
        readCode();
        DUE.end();
    }

    private static void face() {
        Set<String> got = new TreeSet<>();
        for (Method method : SquareFolds.class.getDeclaredMethods()) {
            if (Modifier.isPublic(method.getModifiers())) {
                DUE.holds(method + " belongs to objects", !Modifier.isStatic(method.getModifiers()));
                got.add(told(method));
            }
        }
        DUE.holds("the face is " + got, got.equals(new TreeSet<>(Arrays.asList(FACE))));
        DUE.holds("the class is public", Modifier.isPublic(SquareFolds.class.getModifiers()));
        DUE.holds("the class is final", Modifier.isFinal(SquareFolds.class.getModifiers()));
        Constructor<?>[] constructors = SquareFolds.class.getDeclaredConstructors();
        DUE.is("constructors", constructors.length, 1);
        DUE.is("its parameters", constructors[0].getParameterCount(), 0);
        DUE.holds("it is public", Modifier.isPublic(constructors[0].getModifiers()));
    }

    private static String told(Method method) {
        StringBuilder told = new StringBuilder(method.getReturnType() + " " + method.getName() + "(");
        for (Class<?> type : method.getParameterTypes()) {
            told.append(told.charAt(told.length() - 1) == '(' ? "" : ",").append(type);
        }
        return told.append(")").toString();
    }

    private static void members() {
        Set<String> constants = new TreeSet<>();
        for (Field field : SquareFolds.class.getDeclaredFields()) {
            if (Modifier.isPublic(field.getModifiers())) {
                constants.add(field.getType() + " " + field.getName());
            } else {
                DUE.holds(field + " is private", Modifier.isPrivate(field.getModifiers()));
            }
        }
        DUE.holds("the constants are " + constants, constants.equals(
            Set.of("int UNKNOWN", "int BAD", "int LATE", "int FULL", "int NONE")));
    }

    private static void rulesOf(Class<?> type) {
        Set<String> names = new TreeSet<>();
        for (String told : FACE) {
            names.add(told.substring(told.indexOf(' ') + 1, told.indexOf('(')));
        }
        for (Method method : type.getDeclaredMethods()) {
            boolean ofTheFace = type == SquareFolds.class && Modifier.isPublic(method.getModifiers());
            DUE.holds(method + " bears no name of the face", ofTheFace || !names.contains(method.getName()));
            DUE.holds(method + " takes seven at most", method.getParameterCount() <= 7);
            DUE.holds(method + " is private", type != SquareFolds.class || ofTheFace
                || Modifier.isPrivate(method.getModifiers()));
        }
        int fields = 0;
        for (Field field : type.getDeclaredFields()) {
            boolean isStatic = Modifier.isStatic(field.getModifiers());
            fields += isStatic ? 0 : 1;
            DUE.holds(field + " is final, if static", !isStatic || Modifier.isFinal(field.getModifiers()));
        }
        DUE.holds(type + " has twenty fields at most", fields <= 20);
        DUE.holds(type + " is static", type == SquareFolds.class || Modifier.isStatic(type.getModifiers()));
        DUE.is(type + " has classes inside", type == SquareFolds.class ? 0 : type.getDeclaredClasses().length, 0);
    }

    /** The reader must see what is ruled out, or its silence says nothing. */
    private static void readerSees() throws IOException {
        String[][] told = {
            {"rule 2: a lambda", "void a() { Runnable r = () -> { }; }"},
            {"rule 2: a method reference", "void a() { Runnable r = this::a; }"},
            {"rule 2: a local or anonymous class", "void a() { class B { } }"},
            {"rule 3: the type of a", "double[][] a() { return null; } Object b; java.util.Map<Integer, Integer> a;"},
            {"rule 4: Math.sqrt", "int a(int b) { return (int) Math.sqrt(b); }"},
            {"rule 4: Math.addExact", "int a(int b) { return Math.addExact(b, b); }"},
            {"rule 4: new Object", "boolean a() { return new Object() == null; }"},
            {"rule 5: a static field that is not final, a", "static int a = 0;"},
            {"rule 5: an array that is not written out, a", "static final int[] b = {1}; static final int[] a = b.clone();"},
            {"rule 6: throw", "void a() { throw new IllegalStateException(); }"},
            {"rule 6: try", "void a() { try { a(); } finally { a(); } }"},
            {"rule 6: synchronized", "void a() { synchronized (this) { a(); } }"},
            {"rule 6: assert", "void a() { assert true; }"},
            {"rule 7: a divisor that is not looked at, c", "int a(int b, int c) { return b / c; }"},
            {"rule 7: a divisor that is not looked at, c", "int a(int b, int c) { return b % c; }"},
            {"rule 8: recursion", "void a() { b(); } void b() { a(); }"},
            {"rule 9: a loop without a bound or a step", "void a() { for (;;) { a(); } }"},
            {"rule 9: a loop whose end", "void a(boolean b) { while (b) { b = !b; } }"}};
        Path folder = Files.createTempDirectory("language");
        Path file = folder.resolve("SquareFolds.java");
        for (String[] each : told) {
            Files.writeString(file, "public final class SquareFolds { " + each[1] + " }");
            CodeReader reader = CodeReader.of(file);
            reader.deepest();
            DUE.holds("the reader sees " + each[0] + " in " + each[1] + ", not only " + reader.faults,
                reader.faults.stream().anyMatch(fault -> fault.startsWith(each[0])));
        }
        Files.delete(file);
        Files.delete(folder);
    }

    private static void readCode() throws IOException {
        CodeReader reader = CodeReader.of(SOURCE);
        DUE.holds("methods were read", reader.lines.size() > FACE.length);
        for (String method : reader.lines.keySet()) {
            DUE.holds(method + " has sixty lines at most", reader.lines.get(method) <= 60);
        }
        int deepest = reader.deepest();
        DUE.holds("calls go eight deep at most, not " + deepest, deepest > 1 && deepest <= 8);
        for (String fault : reader.faults) {
            DUE.holds(fault, false);
        }
    }
}
