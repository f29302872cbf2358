import java.io.IOException;
import java.lang.reflect.Constructor;
import java.lang.reflect.Field;
import java.lang.reflect.Method;
import java.lang.reflect.Modifier;
import java.nio.file.Files;
import java.nio.file.Path;
import java.util.List;
import java.util.Set;
import java.util.TreeSet;
import java.util.regex.Matcher;
import java.util.regex.Pattern;

// The face of the class, and those rules of LANGUAGE.md that can be looked up in its lines.
public final class LanguageTest {
    static final Path SOURCE = Path.of("src/main/java/OracleWheel.java");
    static final String FACE = "asker(int,int) back() both(int,int,int) count(int) fault() first(int) foot(int) forget() "
        + "from(int,int) graze() grazing(int,int,int,int) hold(int) keep() laws(int) lay() pass(int) read(int,int) round() "
        + "see(int,int) setOut(int,int) top(int) undo() upper(int) way(int,int) wipe() word(int) write(int) year(int,int,int)";
    static final String[] FORBIDDEN = {"\\bimport\\b", "\\bpackage\\b", "->", "::", "\\bthrows?\\b", "\\btry\\b", "\\bcatch\\b",
        "\\bfinally\\b", "\\bassert\\b", "\\bsynchronized\\b", "\\binstanceof\\b", "\\bprotected\\b", "\\bvar\\b", "\\brecord\\b",
        "\\bSystem\\b", "\\bRandom\\b", "\\bThread\\b", "Exact\\(", "Math\\.(?!max|min|floorMod)", "\\bwhile\\b", "@"};
    static int wrong = 0;

    static void hold(boolean so, String what) {
        if (!so) {
            wrong++;
            System.out.println("LanguageTest: " + what);
        }
    }

    static void face() {
        Class<?> face = OracleWheel.class;
        Set<String> methods = new TreeSet<>();
        for (Method m : face.getDeclaredMethods()) {
            if (m.isSynthetic()) continue;
            if (Modifier.isPublic(m.getModifiers())) {
                String list = m.toString();
                methods.add(m.getName() + list.substring(list.indexOf('(')));
                hold(m.getReturnType() == int.class && !Modifier.isStatic(m.getModifiers()), "kind of " + m);
            } else {
                hold(Modifier.isPrivate(m.getModifiers()), "not private: " + m);
            }
        }
        hold(String.join(" ", methods).equals(FACE), "methods: " + methods);
        Set<String> constants = new TreeSet<>();
        for (Field f : face.getDeclaredFields()) {
            if (Modifier.isPublic(f.getModifiers())) constants.add(f.getName());
            else hold(Modifier.isPrivate(f.getModifiers()), "not private: " + f);
            hold(!Modifier.isStatic(f.getModifiers()) || Modifier.isFinal(f.getModifiers()), "not final: " + f);
        }
        hold(constants.equals(Set.of("BAD", "NO", "FULL", "NONE")), "constants: " + constants);
        Constructor<?>[] makers = face.getDeclaredConstructors();
        hold(makers.length == 1 && Modifier.isPublic(makers[0].getModifiers()) && makers[0].getParameterCount() == 0, "constructor");
        hold(Modifier.isFinal(face.getModifiers()), "the class is not final");
        hold(face.getDeclaredClasses().length <= 12, "too many classes");
        for (Class<?> inside : face.getDeclaredClasses()) inside(inside, methods);
    }

    static void inside(Class<?> inside, Set<String> methods) {
        hold(Modifier.isStatic(inside.getModifiers()) && Modifier.isPrivate(inside.getModifiers()), "inside: " + inside);
        hold(inside.getDeclaredFields().length <= 20, "too many fields: " + inside);
        for (Method m : inside.getDeclaredMethods()) {
            hold(m.getParameterCount() <= 7, "too many parameters: " + m);
            for (String open : methods) hold(!open.startsWith(m.getName() + "("), "a public name: " + m);
        }
    }

    static void lines() throws IOException {
        List<String> lines = Files.readAllLines(SOURCE);
        Pattern head = Pattern.compile("^ +(?!return|new|else)[\\w\\[\\] ]+\\([^;]*\\) \\{$");
        int begun = -1;
        for (int i = 0; i < lines.size(); i++) {
            String code = lines.get(i).replaceAll("//.*", "");
            for (String one : FORBIDDEN) {
                Matcher m = Pattern.compile(one).matcher(code);
                hold(!m.find(), "line " + (i + 1) + ": " + one);
            }
            hold(!code.matches(".*\" *\\+.*|.*\\+ *\".*"), "line " + (i + 1) + ": texts joined by +");
            boolean begins = head.matcher(code).matches() && !code.matches(" +(if|for|switch|\\} else).*");
            if (begins) begun = i;
            if (begun >= 0) hold(i - begun < 60, "a method of more than 60 lines ends behind line " + (begun + 1));
        }
        hold(begun > 0, "no method found");
    }

    public static void main(String[] args) throws IOException {
        face();
        lines();
        System.out.println(wrong == 0 ? "LanguageTest: as it should be" : "LanguageTest: " + wrong + " faults");
        if (wrong != 0) System.exit(1);
    }
}
