import java.io.IOException;
import java.lang.reflect.Executable;
import java.lang.reflect.Field;
import java.lang.reflect.Member;
import java.lang.reflect.Method;
import java.lang.reflect.Modifier;
import java.nio.file.Files;
import java.nio.file.Path;
import java.util.ArrayList;
import java.util.List;
import java.util.Set;
import java.util.TreeSet;
import java.util.regex.Matcher;
import java.util.regex.Pattern;

/** The rules of LANGUAGE.md that can be seen from the file's signs or from the compiled classes. */
public final class LanguageCheck {
    private static final Path SOURCE = Path.of("src/main/java/CodedStore.java");
    private static final String EXCEPTIONS = "(IllegalStateException|IllegalArgumentException|IndexOutOfBoundsException"
        + "|ArithmeticException|UnsupportedOperationException|NoSuchElementException|RuntimeException)";
    private static final String[] FORBIDDEN = {"\\bpackage\\b", "->", "::", "\\bfinally\\b", "\\btry \\(",
        "\\bsynchronized\\b", "\\bassert\\b", "\\bThread\\b", "\\bhashCode\\b", "Exact\\(", "\\bMath\\.random\\b",
        "\\bwhile \\(true\\)", "for \\(;;\\)", "\\bvolatile\\b", "\\bnative\\b", "\\bextends \\w*Exception\\b",
        "\\bimport (?!java\\.util\\.(ArrayList|List|Arrays|Iterator|NoSuchElementException);)",
        "\\bthrow (?!new " + EXCEPTIONS + "\\((\"[^\"]*\")?\\);)",
        "\\bcatch \\((?!(final )?" + EXCEPTIONS + "( \\| " + EXCEPTIONS + ")* \\w+\\))"};
    private static final Set<String> LIBRARY = Set.of("System.arraycopy", "Arrays.copyOf", "Arrays.copyOfRange",
        "Arrays.fill", "List.of");
    private static final Set<String> NUMBERS = Set.of("Math", "Integer", "Long");
    private static final Set<Class<?>> CONSTANTS = Set.of(int.class, long.class, boolean.class, char.class,
        String.class, int[].class, long[].class, char[].class, byte[].class);
    private static final String[] FACE = {"int feed(int,long)", "int commit(int)", "int delete(int)", "int load(int)",
        "int out(int)", "int clean()", "int power(int)", "int recover()", "int word(int,int)", "int told(int)",
        "int number(int)", "int key(int)", "int pack()", "int unpack()", "int place()", "CodedStore()",
        "static final int NONE", "static final int ABSENT", "static final int ROOM", "static final int OFF"};
    private static int wrong;

    public static void main(String[] args) throws IOException {
        String text = Files.readString(SOURCE);
        checkSigns(text);
        checkLengths(text);
        checkFace();
        checkClasses();
        System.out.println("LanguageCheck: " + wrong + " faults");
        if (wrong != 0) {
            System.exit(1);
        }
    }

    private static void fault(String what) {
        wrong++;
        System.out.println("LanguageCheck: " + what);
    }

    private static void checkSigns(String text) {
        if (text.chars().anyMatch(c -> c > 126)) {
            fault("a sign that is not plain");
        }
        String code = text.replaceAll("(?s)/\\*.*?\\*/", "").replaceAll("//[^\n]*", "")
            .replaceAll("\\b(case [^:;{}]*?|default )->", "case:");
        for (String f : FORBIDDEN) {
            Matcher m = Pattern.compile(f).matcher(code);
            if (m.find()) {
                fault("'" + m.group() + "' stands in the code");
            }
        }
        Set<String> own = new TreeSet<>();
        for (Class<?> c : CodedStore.class.getDeclaredClasses()) {
            own.add(c.getSimpleName());
        }
        Matcher calls = Pattern.compile("\\b([A-Z]\\w+)\\.(\\w+)\\(").matcher(code);
        while (calls.find()) {
            String name = calls.group(1);
            if (!own.contains(name) && !NUMBERS.contains(name) && !LIBRARY.contains(name + "." + calls.group(2))) {
                fault("a call of " + calls.group());
            }
        }
    }

    /** Rule 1: what is not private is the document's face, but for the classes inside. */
    private static void checkFace() {
        Set<String> found = new TreeSet<>();
        List<Member> members = new ArrayList<>(List.of(CodedStore.class.getDeclaredMethods()));
        members.addAll(List.of(CodedStore.class.getDeclaredConstructors()));
        members.addAll(List.of(CodedStore.class.getDeclaredFields()));
        for (Member m : members) {
            if (!Modifier.isPrivate(m.getModifiers()) && !m.isSynthetic()) {
                found.add(m.toString().replaceAll("CodedStore\\.| throws .*", ""));
            }
        }
        Set<String> due = new TreeSet<>();
        for (String f : FACE) {
            due.add("public " + f);
        }
        if (!found.equals(due)) {
            fault("the face is " + found + ", due is " + due);
        }
        if (!Modifier.isFinal(CodedStore.class.getModifiers()) || !Modifier.isPublic(CodedStore.class.getModifiers())) {
            fault("the class is not public and final");
        }
    }

    private static void checkLengths(String text) {
        String[] lines = text.split("\n");
        int began = -1;
        String end = "";
        for (int i = 0; i < lines.length; i++) {
            if (began < 0 && lines[i].matches(" {4}(| {4})[\\w\\[\\] ]+\\(.*\\).*\\{")) {
                began = i;
                end = lines[i].replaceAll("\\S.*", "") + "}";
            } else if (began >= 0 && lines[i].equals(end)) {
                if (i - began > 60) {
                    fault("a long method at line " + (began + 1));
                }
                began = -1;
            }
        }
    }

    private static void checkClasses() {
        List<Class<?>> classes = new ArrayList<>(List.of(CodedStore.class.getDeclaredClasses()));
        Set<String> face = new TreeSet<>();
        for (Method m : CodedStore.class.getDeclaredMethods()) {
            if (Modifier.isPublic(m.getModifiers())) {
                face.add(m.getName());
            }
        }
        for (Class<?> c : classes) {
            if (Modifier.isPublic(c.getModifiers()) || Modifier.isProtected(c.getModifiers())
                    || !Modifier.isStatic(c.getModifiers())) {
                fault(c + " is not private or package-visible and static");
            }
        }
        classes.add(CodedStore.class);
        if (classes.size() > 12) {
            fault("too many classes");
        }
        for (Class<?> c : classes) {
            checkMembers(c, face);
        }
    }

    private static void checkMembers(Class<?> c, Set<String> face) {
        int fields = 0;
        for (Field f : c.getDeclaredFields()) {
            boolean isStatic = Modifier.isStatic(f.getModifiers());
            fields += isStatic ? 0 : 1;
            boolean isConstant = CONSTANTS.contains(f.getType()) || f.getType().isEnum() || f.isSynthetic();
            if (isStatic && !(Modifier.isFinal(f.getModifiers()) && isConstant)) {
                fault(f + " is not a constant");
            }
        }
        if (fields > 20) {
            fault(c + " has " + fields + " fields");
        }
        for (Method m : c.getDeclaredMethods()) {
            if (Modifier.isPrivate(m.getModifiers()) && face.contains(m.getName())) {
                fault(m + " bears the name of a public one");
            }
        }
        List<Executable> all = new ArrayList<>(List.of(c.getDeclaredMethods()));
        all.addAll(List.of(c.getDeclaredConstructors()));
        for (Executable e : all) {
            if (e.getParameterCount() > 7) {
                fault(e + " takes too many parameters");
            }
        }
    }
}
