import java.lang.reflect.Constructor;
import java.lang.reflect.Field;
import java.lang.reflect.Method;
import java.lang.reflect.Modifier;
import java.nio.file.Files;
import java.nio.file.Path;
import java.util.Set;
import java.util.TreeSet;

/** The face of the document, and those rules of LANGUAGE.md that can be looked for. */
public final class LanguageTest {
    private static final String FACE = "row/3 set/3 copy/5 drop/1 feed/1 ministry/0 fault/0 undo/0 steps/1 come/2 bow/1 "
            + "revise/3 person/2 door/2 ahead/2 waitAhead/2 goes/1 stuck/0 ring/2 bows/2 raise/1 third/2 bestDoor/2 "
            + "ranks/5 who/5 precedence/2 both/1 faint/3 drawn/3 image/1 restore/1 kind/1 as/2 ask/2 trace/1 count/1 "
            + "status/0";
    private static final String[] NOT_ALLOWED = {
        "\\bthrow\\b", "\\bthrows\\b", "\\btry\\b", "\\bcatch\\b", "\\bsynchronized\\b", "\\bassert\\b", "->", "::",
        "\\bimport\\b", "\\bpackage\\b", "\\bvolatile\\b", "\\bnative\\b", "\\bstatic\\s*\\{", "\\bSystem\\.(?!arraycopy)",
        "Exact\\(", "\\bThread\\b", "\\bRandom\\b", "\\bequals\\(", "\\bhashCode\\(", "\\btoString\\(", "\\bObject\\b"
    };

    public static void main(String[] args) throws Exception {
        faceIsAsTold();
        classesInsideAreAsTold();
        textIsAsTold(Files.readString(Path.of("src/main/java/YieldDoors.java")));
        Due.end();
    }

    private static void faceIsAsTold() {
        Class<?> face = YieldDoors.class;
        Due.holds("public and final", face.getModifiers() == (Modifier.PUBLIC | Modifier.FINAL));
        Set<String> names = new TreeSet<>();
        for (Method method : face.getDeclaredMethods()) {
            if (method.isSynthetic()) {
                continue;
            }
            String name = method.getName() + "/" + method.getParameterCount();
            if (!Modifier.isPrivate(method.getModifiers())) {
                names.add(name);
                Due.holds(name + " is public", method.getModifiers() == Modifier.PUBLIC);
                Class<?> type = name.equals("faint/3") ? long.class : int.class;
                Due.holds(name + " answers " + type, method.getReturnType() == type);
            }
        }
        Due.holds("the methods of the face", names.equals(new TreeSet<>(Set.of(FACE.split(" ")))));
        Constructor<?>[] made = face.getDeclaredConstructors();
        Due.holds("one public constructor", made.length == 1 && Modifier.isPublic(made[0].getModifiers()));
        Set<String> constants = new TreeSet<>();
        int held = 0;
        for (Field field : face.getDeclaredFields()) {
            if (!Modifier.isPrivate(field.getModifiers())) {
                constants.add(field.getName());
            }
            held += Modifier.isStatic(field.getModifiers()) ? 0 : 1;
        }
        Due.holds("the constants", constants.equals(Set.of("NONE", "BAD", "STATE", "FULL")));
        Due.holds("twenty fields at most", held <= 20);
        Due.is("NONE", YieldDoors.NONE, -1000000);
        Due.is("BAD", YieldDoors.BAD, -1000001);
        Due.is("STATE", YieldDoors.STATE, -1000002);
        Due.is("FULL", YieldDoors.FULL, -1000003);
    }

    private static void classesInsideAreAsTold() {
        Class<?>[] inside = YieldDoors.class.getDeclaredClasses();
        Due.holds("twelve classes at most", inside.length + 1 <= 12);
        Set<String> taken = new TreeSet<>();
        for (String name : FACE.split(" ")) {
            taken.add(name.substring(0, name.indexOf('/')));
        }
        for (Class<?> one : inside) {
            int is = one.getModifiers();
            Due.holds(one + " is static and not public",
                    Modifier.isStatic(is) && !Modifier.isPublic(is) && !Modifier.isProtected(is));
            for (Method method : one.getDeclaredMethods()) {
                Due.holds(method + " has a name of its own", !taken.contains(method.getName()));
                Due.holds(method + " takes seven at most", method.getParameterCount() <= 7);
            }
            int held = 0;
            for (Field field : one.getDeclaredFields()) {
                Due.holds(field + " is final, if static",
                        !Modifier.isStatic(field.getModifiers()) || Modifier.isFinal(field.getModifiers()));
                held += Modifier.isStatic(field.getModifiers()) ? 0 : 1;
            }
            Due.holds(one + " has twenty fields at most", held <= 20);
        }
        for (Method method : YieldDoors.class.getDeclaredMethods()) {
            Due.holds(method + " takes seven at most", method.getParameterCount() <= 7);
            if (Modifier.isPrivate(method.getModifiers())) {
                Due.holds(method + " has a name of its own", !taken.contains(method.getName()));
            }
        }
    }

    private static void textIsAsTold(String source) {
        String code = source.replaceAll("(?s)/\\*.*?\\*/", "").replaceAll("//[^\n]*", "");
        for (String not : NOT_ALLOWED) {
            Due.holds("no " + not, !java.util.regex.Pattern.compile(not).matcher(code).find());
        }
        Due.holds("signs 1 to 127", source.chars().allMatch(c -> c >= 1 && c <= 127));
        int longest = 0;
        int begun = 0;
        String[] lines = source.split("\n");
        for (int i = 0; i < lines.length; i++) {
            if (lines[i].matches(" {4,8}[a-z].*\\) \\{")) {
                begun = i;
            }
            if (lines[i].matches(" {4,8}\\}") && begun > 0) {
                longest = Math.max(longest, i - begun + 1);
                begun = 0;
            }
        }
        Due.holds("methods of sixty lines at most, longest " + longest, longest > 20 && longest <= 60);
    }
}
