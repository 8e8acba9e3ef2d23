import java.lang.reflect.Constructor;
import java.lang.reflect.Field;
import java.lang.reflect.Method;
import java.lang.reflect.Modifier;
import java.nio.charset.StandardCharsets;
import java.nio.file.Files;
import java.nio.file.Path;
import java.util.ArrayList;
import java.util.Arrays;
import java.util.List;
import java.util.TreeSet;
import java.util.regex.Matcher;
import java.util.regex.Pattern;

/** The face is the document's and no more; the file keeps to what of LANGUAGE.md can be looked for. */
public final class FaceTest {
    private static final Path FILE = Path.of("src/main/java/ThreesAtTable.java");
    private static final String[] METHODS = {
        "int sit(int)", "int meet(int,int,int)", "int told(int,int)", "int town(int,int)", "int asIn(int)",
        "int tells(int,int,int,int)", "int feed(int)", "int text()", "int force(int)", "int threes(int)", "int guest(int,int)",
        "int most()", "int home(int)", "int change(int)", "int noneLeft(int)", "int all(int,int)", "int halved(int)", "int fours()",
        "int common(int)", "int without(int,int)", "int half(int)", "long chance(int)", "int game(int)", "int judge(int,int)",
        "int drawn(int)", "int like(int)", "int image()", "int back()", "int count(int)", "int sheet(int,int,int)",
        "int cell(int,int,int)", "int copy(int,int,int,int,int)", "int pairs(int,int,int,int)", "int taken(int,int)"};
    private static int wrong;

    public static void main(String[] args) throws Exception {
        lookAtFace();
        lookAtInside();
        lookAtWords(Files.readString(FILE, StandardCharsets.UTF_8));
        System.out.println(wrong == 0 ? "the face and the words are as due" : wrong + " faults");
        if (wrong != 0) System.exit(1);
    }

    private static void must(boolean is, String what) {
        if (is) return;
        wrong++;
        System.out.println("not so: " + what);
    }

    private static void lookAtFace() {
        Class<?> c = ThreesAtTable.class;
        must(Modifier.isPublic(c.getModifiers()) && Modifier.isFinal(c.getModifiers()), "the class is public and final");
        must(c.getPackageName().isEmpty(), "the class has no package");
        TreeSet<String> names = new TreeSet<>();
        TreeSet<String> face = new TreeSet<>();
        for (Method m : c.getDeclaredMethods()) {
            if (Modifier.isPrivate(m.getModifiers())) continue;
            must(Modifier.isPublic(m.getModifiers()) && !Modifier.isStatic(m.getModifiers()), m.getName() + " is of the face");
            names.add(m.getName());
            face.add(m.getReturnType() + " " + m.getName() + Arrays.toString(m.getParameterTypes()).replace('[', '(').replace(']', ')').replace(" ", ""));
        }
        must(face.equals(new TreeSet<>(List.of(METHODS))), "the methods are the document's: " + face);
        for (Method m : c.getDeclaredMethods()) {
            must(!Modifier.isPrivate(m.getModifiers()) || !names.contains(m.getName()), "no private method is named " + m.getName());
        }
        Constructor<?>[] made = c.getDeclaredConstructors();
        must(made.length == 1 && Modifier.isPublic(made[0].getModifiers()) && made[0].getParameterCount() == 0, "one constructor");
        TreeSet<String> constants = new TreeSet<>();
        for (Field f : c.getDeclaredFields()) if (!Modifier.isPrivate(f.getModifiers())) constants.add(f.getType() + " " + f.getName());
        must(constants.equals(new TreeSet<>(List.of("int NONE", "int BAD", "int STATE", "int FULL", "long NO"))), "the constants: " + constants);
    }

    private static void lookAtInside() {
        List<Class<?>> classes = new ArrayList<>(List.of(ThreesAtTable.class.getDeclaredClasses()));
        must(classes.size() <= 11, "some twelve classes");
        classes.add(ThreesAtTable.class);
        for (Class<?> c : classes) {
            must(c == ThreesAtTable.class || Modifier.isStatic(c.getModifiers()) && !Modifier.isPublic(c.getModifiers()), c + " is static and not public");
            int fields = 0;
            for (Field f : c.getDeclaredFields()) {
                must(!Modifier.isStatic(f.getModifiers()) || Modifier.isFinal(f.getModifiers()), f + " is final");
                if (!Modifier.isStatic(f.getModifiers())) fields++;
            }
            must(fields <= 20, c + " has some twenty fields");
            for (Method m : c.getDeclaredMethods()) must(m.getParameterCount() <= 7, m + " takes seven at most");
        }
    }

    private static void lookAtWords(String file) {
        for (char sign : file.toCharArray()) must(sign >= 1 && sign <= 127, "signs are 1 to 127");
        String code = file.replaceAll("(?s)/\\*.*?\\*/", " ").replaceAll("//[^\n]*", " ").replaceAll("\"[^\"\n]*\"", "\"\"");
        Matcher banned = Pattern.compile("\\b(throws?|try|catch|finally|synchronized|assert|package|native|volatile|transient"
            + "|protected|yield|var|Object|Random|System\\.(?!arraycopy)\\w+|Thread|Math\\.\\w*Exact|String\\.\\w+|hashCode|toString"
            + "|java\\.(?!util\\.)\\w+)\\b|->|::|\\bstatic\\s*\\{|\\+ *\"|\" *\\+|@").matcher(code);
        while (banned.find()) must(false, "no '" + banned.group() + "' in the file");
        Matcher library = Pattern.compile("\\b(Arrays|System)\\.(\\w+)").matcher(code);
        List<String> known = List.of("Arrays.copyOf", "Arrays.copyOfRange", "Arrays.fill", "System.arraycopy");
        while (library.find()) must(known.contains(library.group()), library.group() + " is of the library");
        Pattern imports = Pattern.compile("import java\\.util\\.(Arrays|ArrayList|List|Iterator);");
        must(code.lines().noneMatch(line -> line.startsWith("import ") && !imports.matcher(line).matches()), "no other import");
        Matcher method = Pattern.compile("(?m)^( {4}| {8})(?=\\w)[^;={]*\\([^;={]*\\) \\{\n(?:(?!\\1\\}).*\n)*\\1\\}").matcher(code);
        int methods = 0;
        for (; method.find(); methods++) must(method.group().lines().count() <= 60, "short: " + method.group().lines().findFirst().get());
        must(methods >= METHODS.length, "the methods are found: " + methods);
    }
}
