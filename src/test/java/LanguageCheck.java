import java.io.IOException;
import java.lang.reflect.Executable;
import java.lang.reflect.Field;
import java.lang.reflect.Method;
import java.lang.reflect.Modifier;
import java.nio.file.Files;
import java.nio.file.Path;
import java.util.ArrayList;
import java.util.List;
import java.util.Set;
import java.util.TreeSet;
import java.util.regex.Matcher;
import java.util.regex.Pattern;

/** The rules of LANGUAGE.md that can be seen from the file's signs or from the compiled classes. */
public final class LanguageCheck {
    private static final Path SOURCE = Path.of("src/main/java/CodedStore.java");
    private static final String[] FORBIDDEN = {"\\bimport\\b", "\\bpackage\\b", "->", "::", "\\bfinally\\b",
        "\\bsynchronized\\b", "\\bassert\\b", "\\bcatch\\b", "\\binstanceof\\b", "\\bThread\\b", "\\bSystem\\b",
        "\\bObject\\b", "\\.equals\\(", "\\bhashCode\\b", "\\btoString\\b", "Exact\\(", "\\bMath\\.random\\b",
        "\\bwhile \\(true\\)", "for \\(;;\\)", "\\bvolatile\\b", "\\bnative\\b", "\\bvar\\b"};
    private static int wrong;

    public static void main(String[] args) throws IOException {
        String text = Files.readString(SOURCE);
        checkSigns(text);
        checkLengths(text);
        checkClasses();
        System.out.println("LanguageCheck: " + wrong + " faults");
        if (wrong != 0) {
            System.exit(1);
        }
    }

    private static void fault(String what) {
        wrong++;
        System.out.println("LanguageCheck: " + what);
    }

    private static void checkSigns(String text) {
        if (text.chars().anyMatch(c -> c > 126)) {
            fault("a sign that is not plain");
        }
        String code = text.replaceAll("(?s)/\\*.*?\\*/", "").replaceAll("//[^\n]*", "");
        for (String f : FORBIDDEN) {
            Matcher m = Pattern.compile(f).matcher(code);
            if (m.find()) {
                fault("'" + m.group() + "' stands in the code");
            }
        }
        Matcher calls = Pattern.compile("\\b([A-Z]\\w+)\\.(\\w+)\\(").matcher(code);
        Set<String> known = Set.of("Math.min", "Math.max", "Coder.encode", "Coder.decode");
        while (calls.find()) {
            if (!known.contains(calls.group(1) + "." + calls.group(2))) {
                fault("a call of " + calls.group());
            }
        }
    }

    private static void checkLengths(String text) {
        String[] lines = text.split("\n");
        int began = -1;
        String end = "";
        for (int i = 0; i < lines.length; i++) {
            if (began < 0 && lines[i].matches(" {4}(| {4})[\\w\\[\\] ]+\\(.*\\).*\\{")) {
                began = i;
                end = lines[i].replaceAll("\\S.*", "") + "}";
            } else if (began >= 0 && lines[i].equals(end)) {
                if (i - began > 60) {
                    fault("a long method at line " + (began + 1));
                }
                began = -1;
            }
        }
    }

    private static void checkClasses() {
        List<Class<?>> classes = new ArrayList<>(List.of(CodedStore.class.getDeclaredClasses()));
        Set<String> face = new TreeSet<>();
        for (Method m : CodedStore.class.getDeclaredMethods()) {
            if (Modifier.isPublic(m.getModifiers())) {
                face.add(m.getName());
            }
        }
        for (Class<?> c : classes) {
            if (Modifier.isPublic(c.getModifiers()) || Modifier.isProtected(c.getModifiers())
                    || !Modifier.isStatic(c.getModifiers())) {
                fault(c + " is not private or package-visible and static");
            }
        }
        classes.add(CodedStore.class);
        if (classes.size() > 12) {
            fault("too many classes");
        }
        for (Class<?> c : classes) {
            checkMembers(c, face);
        }
    }

    private static void checkMembers(Class<?> c, Set<String> face) {
        int fields = 0;
        for (Field f : c.getDeclaredFields()) {
            boolean isStatic = Modifier.isStatic(f.getModifiers());
            fields += isStatic ? 0 : 1;
            if (isStatic && !(Modifier.isFinal(f.getModifiers()) && f.getType() == int.class)) {
                fault(f + " is not a constant");
            }
        }
        if (fields > 20) {
            fault(c + " has " + fields + " fields");
        }
        for (Method m : c.getDeclaredMethods()) {
            if (!Modifier.isPublic(m.getModifiers()) && face.contains(m.getName())) {
                fault(m + " bears the name of a public one");
            }
        }
        List<Executable> all = new ArrayList<>(List.of(c.getDeclaredMethods()));
        all.addAll(List.of(c.getDeclaredConstructors()));
        for (Executable e : all) {
            if (e.getParameterCount() > 7) {
                fault(e + " takes too many parameters");
            }
        }
    }
}
