import java.io.IOException;
import java.lang.reflect.Constructor;
import java.lang.reflect.Field;
import java.lang.reflect.Method;
import java.lang.reflect.Modifier;
import java.nio.file.Files;
import java.nio.file.Path;
import java.util.Arrays;
import java.util.HashSet;
import java.util.List;
import java.util.Set;
import java.util.TreeSet;
import java.util.regex.Matcher;
import java.util.regex.Pattern;

/** The public face of the document, and rules of LANGUAGE.md that can be read off class and source. */
public final class FaceTest {
    private static final List<String> FACE = List.of(
        "int land 2", "int camphor 2", "int moth 3", "int spool 2", "int say 1", "int wipe 0", "int fault 0",
        "int judge 1", "int done 0", "int behind 2", "int flies 2", "int then 1", "int road 2", "int whole 3",
        "int camphored 2", "int darned 1", "int sheet 2", "int seen 2", "int forget 0", "int began 1", "int ask 1",
        "int folds 2", "long coffee 7", "int year 3", "int image 1", "int restore 1", "int told 1");
    private static final List<String> CONSTANTS = List.of(
        "int NONE", "int UNKNOWN", "int OUTSIDE", "int STATE", "int FULL", "int NO", "long LOST");
    private static final List<String> NEVER = List.of(
        "\\btry\\b", "\\bcatch\\b", "\\bfinally\\b", "\\bthrow\\b", "\\bthrows\\b", "\\bsynchronized\\b",
        "\\bassert\\b", "\\bimport\\b", "\\bpackage\\b", "->", "::", "Exact\\b", "\\bstatic\\s*\\{", "\\bfloat\\b",
        "\\bdouble\\b", "\\bhashCode\\b", "\\btoString\\b", "\\bequals\\b", "\\bThread\\b", "\\bnative\\b",
        "\\bSystem\\b", "\\bvar\\b", "while\\s*\\(true\\)", "\\bprotected\\b");

    /** A method's head at some depth, and all to the brace that closes it there. */
    private static final Pattern METHOD = Pattern.compile(
        "(?ms)^( {4}| {8})(?! |if|for|while|switch|else|do\\b)([\\w\\[\\] ]+\\([^;{}()]*\\)) \\{$.*?^\\1\\}$");

    private final Due due = new Due();

    public static void main(String[] args) throws IOException {
        FaceTest test = new FaceTest();
        test.members();
        test.insides();
        test.source();
        test.due.end();
    }

    private void yes(String what, boolean so) {
        due.is(what, 1, so ? 1 : 0);
    }

    private void members() {
        due.of("rule 1");
        Class<?> face = EatenMaps.class;
        yes("public and final", Modifier.isPublic(face.getModifiers()) && Modifier.isFinal(face.getModifiers()));
        Set<String> publics = new TreeSet<>();
        Set<String> names = new HashSet<>();
        for (Method method : face.getDeclaredMethods()) {
            if (Modifier.isPublic(method.getModifiers())) {
                publics.add(method.getReturnType() + " " + method.getName() + " " + method.getParameterCount());
                names.add(method.getName());
                yes("not static: " + method, !Modifier.isStatic(method.getModifiers()));
                yes("all int: " + method, Arrays.stream(method.getParameterTypes()).allMatch(t -> t == int.class));
            }
        }
        yes("public methods are " + publics, publics.equals(new TreeSet<>(FACE)));
        for (Method method : face.getDeclaredMethods()) {
            boolean open = Modifier.isPublic(method.getModifiers());
            yes("public or private: " + method, open || Modifier.isPrivate(method.getModifiers()));
            yes("no public method's name: " + method, open || !names.contains(method.getName()));
        }
        Set<String> constants = new TreeSet<>();
        for (Field field : face.getDeclaredFields()) {
            boolean open = Modifier.isPublic(field.getModifiers());
            yes("public or private: " + field, open || Modifier.isPrivate(field.getModifiers()));
            if (open) {
                constants.add(field.getType() + " " + field.getName());
                yes("constant: " + field, Modifier.isStatic(field.getModifiers()) && Modifier.isFinal(field.getModifiers()));
            }
        }
        yes("public fields are " + constants, constants.equals(new TreeSet<>(CONSTANTS)));
        Constructor<?>[] constructors = face.getDeclaredConstructors();
        yes("one constructor", constructors.length == 1 && constructors[0].getParameterCount() == 0
            && Modifier.isPublic(constructors[0].getModifiers()));
    }

    private void insides() {
        due.of("rules 2, 5, 11");
        Class<?>[] insides = EatenMaps.class.getDeclaredClasses();
        yes("at most twelve classes", insides.length < 12);
        Set<String> faceNames = new HashSet<>();
        FACE.forEach(line -> faceNames.add(line.split(" ")[1]));
        for (Class<?> inside : insides) {
            yes("static: " + inside, Modifier.isStatic(inside.getModifiers()));
            yes("not public: " + inside, !Modifier.isPublic(inside.getModifiers()));
            int fields = 0;
            for (Field field : inside.getDeclaredFields()) {
                boolean shared = Modifier.isStatic(field.getModifiers());
                yes("static is final: " + field, !shared || Modifier.isFinal(field.getModifiers()));
                fields += shared ? 0 : 1;
            }
            yes("at most twenty fields: " + inside, fields <= 20);
            for (Method method : inside.getDeclaredMethods()) {
                yes("at most seven parameters: " + method, method.getParameterCount() <= 7);
                yes("no public method's name: " + method, !faceNames.contains(method.getName()));
            }
        }
    }

    private void source() throws IOException {
        due.of("rules 3 to 11, by the source");
        String source = Files.readString(Path.of("src/main/java/EatenMaps.java"));
        yes("signs 1 to 127", source.chars().allMatch(sign -> sign > 0 && sign < 128));
        String code = source.replaceAll("(?s)/\\*.*?\\*/", "").replaceAll("//[^\n]*", "");
        for (String never : NEVER) {
            Matcher matcher = Pattern.compile(never).matcher(code);
            yes("nowhere: " + never, !matcher.find());
        }
        Matcher method = METHOD.matcher(source);
        int methods = 0;
        while (method.find()) {
            methods++;
            yes("at most sixty lines: " + method.group(2), method.group().lines().count() <= 60);
        }
        yes("methods are found", methods > FACE.size());
    }
}
