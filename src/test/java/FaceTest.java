import java.io.IOException;
import java.lang.reflect.Constructor;
import java.lang.reflect.Field;
import java.lang.reflect.Method;
import java.lang.reflect.Modifier;
import java.nio.file.Files;
import java.nio.file.Path;
import java.util.ArrayList;
import java.util.HashSet;
import java.util.List;
import java.util.Set;
import java.util.TreeSet;
import java.util.regex.Pattern;

/** The public face as the document has it, and the rules of the language that a text search can see. */
public final class FaceTest {
    private static final String FACE = "boolean basin(int,int) int skater(int,int) boolean set(int,int,int) int feed(int,int,int,int,int) "
        + "boolean end(int) int text(int) int fault(int) int minutes(int) int of(int,int) int at(int,int) int cut(int,int) int letter(int) "
        + "int want(int,int) int book(int,int) int read(int) long goes(int) int wants(int) int spoilt(int) int route(int,long,int) "
        + "int soonest(long,int) int beneath(int,int) int lookAt(int) int who(int,int) int holds(int,int) int parts(int,int) "
        + "int yet(int,int,int) long heard(int,int) boolean undo() boolean image(boolean) int look(int) int state(int)";
    private static final String[] FORBIDDEN = {"\\bthrow\\b", "\\btry\\b", "\\bcatch\\b", "\\bsynchronized\\b", "\\bassert\\b", "->", "::",
        "\\bhashCode\\b", "\\btoString\\b", "\\.equals\\(", "while \\(true\\)", "for \\(;;\\)", "Exact\\(", "\\bSystem\\.(?!arraycopy)", "\\bMath\\.random\\b",
        "\" \\+", "\\+ \"", "\\bimport (?!java\\.util\\.Arrays;)", "^package\\b"};

    private static int wrong = 0;

    public static void main(String[] args) throws IOException {
        members();
        innerClasses();
        source(Files.readAllLines(Path.of("src/main/java/LeftSkate.java")));
        System.out.println("FaceTest: " + (wrong == 0 ? "all as due" : wrong + " not as due"));
        if (wrong > 0) {
            System.exit(1);
        }
    }

    private static void must(boolean so, String what) {
        if (!so) {
            wrong++;
            System.out.println("FaceTest: " + what);
        }
    }

    private static void members() {
        Set<String> due = new TreeSet<>(List.of(FACE.split(" (?=boolean |int |long )")));
        Set<String> found = new TreeSet<>();
        Set<String> names = new HashSet<>();
        for (Method m : LeftSkate.class.getDeclaredMethods()) {
            if (Modifier.isPrivate(m.getModifiers())) {
                continue;
            }
            must(Modifier.isPublic(m.getModifiers()) && !Modifier.isStatic(m.getModifiers()), m + " is not public alone");
            names.add(m.getName());
            List<String> types = new ArrayList<>();
            for (Class<?> type : m.getParameterTypes()) {
                types.add(type.getName());
            }
            found.add(m.getReturnType().getName() + " " + m.getName() + "(" + String.join(",", types) + ")");
        }
        must(due.equals(found), "the methods are " + found);
        for (Method m : LeftSkate.class.getDeclaredMethods()) {
            must(!Modifier.isPrivate(m.getModifiers()) || !names.contains(m.getName()), m + " bears the name of a public one");
        }
        for (Field f : LeftSkate.class.getDeclaredFields()) {
            boolean isNone = f.getName().equals("NONE") && Modifier.isPublic(f.getModifiers()) && Modifier.isStatic(f.getModifiers());
            must(isNone || Modifier.isPrivate(f.getModifiers()), f + " is not private");
            must(!Modifier.isStatic(f.getModifiers()) || Modifier.isFinal(f.getModifiers()), f + " is not final");
        }
        Constructor<?>[] made = LeftSkate.class.getDeclaredConstructors();
        must(made.length == 1 && Modifier.isPublic(made[0].getModifiers()) && made[0].getParameterCount() == 0, "the constructor");
        must(Modifier.isFinal(LeftSkate.class.getModifiers()) && Modifier.isPublic(LeftSkate.class.getModifiers()), "public and final");
    }

    private static void innerClasses() {
        Class<?>[] inner = LeftSkate.class.getDeclaredClasses();
        must(inner.length <= 11, "classes: " + inner.length);
        for (Class<?> c : inner) {
            must(Modifier.isStatic(c.getModifiers()) && Modifier.isFinal(c.getModifiers()), c + " is not static and final");
            int fields = 0;
            for (Field f : c.getDeclaredFields()) {
                boolean isStatic = Modifier.isStatic(f.getModifiers());
                must(!isStatic || Modifier.isFinal(f.getModifiers()), f + " is not final");
                fields += isStatic ? 0 : 1;
            }
            must(fields <= 20, c + " has " + fields + " fields");
            for (Method m : c.getDeclaredMethods()) {
                must(m.getParameterCount() <= 7, m + " takes too much");
                must(!m.isSynthetic(), m + " is the compiler's");
            }
        }
    }

    private static void source(List<String> lines) {
        int begun = 0;
        for (int i = 0; i < lines.size(); i++) {
            String line = lines.get(i);
            String code = line.replaceAll("//.*|^\\s*/?\\*.*", "");
            for (String forbidden : FORBIDDEN) {
                must(!Pattern.compile(forbidden).matcher(code).find(), "line " + (i + 1) + " has " + forbidden);
            }
            must(line.chars().allMatch(c -> c < 128), "line " + (i + 1) + " has a sign above 127");
            // rows are made with the object and used again
            must(!code.contains("new ") || code.contains("final ") || code.contains("past[i] = new Moment()"), "line " + (i + 1) + " makes an object");
            if (code.matches("    (    )?\\S.*\\) \\{")) {
                begun = i;
            }
            if (code.equals("    }") || code.equals("        }")) {
                must(i - begun <= 60, "line " + (i + 1) + " ends what is longer than 60 lines");
            }
        }
    }
}
