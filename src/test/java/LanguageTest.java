import java.io.IOException;
import java.lang.reflect.Constructor;
import java.lang.reflect.Field;
import java.lang.reflect.Method;
import java.lang.reflect.Modifier;
import java.nio.file.Files;
import java.nio.file.Path;
import java.util.HashMap;
import java.util.List;
import java.util.Map;
import java.util.Set;
import java.util.TreeSet;
import java.util.regex.Matcher;
import java.util.regex.Pattern;

/** The rules of ../shared/LANGUAGE.md that can be seen in the compiled class or in the words of its file. */
public final class LanguageTest {
    private static final Set<String> FACE = new TreeSet<>(List.of("int write(long,int)", "int erase()", "int fault()",
            "int sunday()", "int coin(int,int)", "int purse(int,int)", "int person(int,int)", "int as(int,int)",
            "int come(int)", "int gain(int,int)", "int visit(int)", "int go(int)", "int plan(int,int)", "int game(int)",
            "int choice(int)", "int league(int,int)", "long mean(int,int,int)", "int dry()", "int bait(int)",
            "int note(int,int)", "int forget()", "int lay(int)", "int keep(int)", "int back(int)", "int count(int)"));
    private static final List<String> CONSTANTS = List.of("NONE", "UNKNOWN", "OUTSIDE", "NOT", "FULL");
    private static final Pattern BARRED = Pattern.compile("\\b(throw|throws|try|catch|finally|synchronized|assert|import|package"
            + "|record|var|volatile|transient|native|yield)\\b|->|::|@|\\.\\.\\.|\"\\s*\\+|\\+\\s*\"");
    private static int wrong;

    public static void main(String[] args) throws IOException {
        face();
        Set<String> faceNames = new TreeSet<>();
        FACE.forEach(one -> faceNames.add(one.substring(one.indexOf(' ') + 1, one.indexOf('('))));
        int classes = 1;
        fields(ThrownCoins.class);
        for (Class<?> inside : ThrownCoins.class.getDeclaredClasses()) {
            classes++;
            need(Modifier.isStatic(inside.getModifiers()), inside + " is not static");
            need(!Modifier.isPublic(inside.getModifiers()) && !Modifier.isProtected(inside.getModifiers()), inside + " is open");
            need(inside.getDeclaredClasses().length == 0, inside + " has classes inside");
            fields(inside);
            methods(inside, faceNames);
        }
        need(classes <= 12, classes + " classes");
        words(Files.readString(Path.of("src/main/java/ThrownCoins.java")));
        System.out.println(wrong == 0 ? "the rules are kept" : wrong + " rules are not kept");
        if (wrong != 0) {
            System.exit(1);
        }
    }

    private static void need(boolean kept, String otherwise) {
        if (!kept) {
            wrong++;
            System.out.println(otherwise);
        }
    }

    private static void face() {
        Class<?> face = ThrownCoins.class;
        need(Modifier.isPublic(face.getModifiers()) && Modifier.isFinal(face.getModifiers()), "the class is not public final");
        need(face.getSuperclass() == Object.class && face.getInterfaces().length == 0, "the class is over another");
        Constructor<?>[] constructors = face.getDeclaredConstructors();
        need(constructors.length == 1 && Modifier.isPublic(constructors[0].getModifiers())
                && constructors[0].getParameterCount() == 0, "another constructor");
        Set<String> open = new TreeSet<>();
        Set<String> names = new TreeSet<>();
        for (Method method : face.getDeclaredMethods()) {
            if (Modifier.isPublic(method.getModifiers())) {
                open.add(signature(method));
                names.add(method.getName());
                need(!Modifier.isStatic(method.getModifiers()), method + " is static");
            }
        }
        need(open.equals(FACE), "the face is " + open);
        for (Method method : face.getDeclaredMethods()) {
            if (!Modifier.isPublic(method.getModifiers())) {
                need(Modifier.isPrivate(method.getModifiers()), method + " can be seen");
                need(!names.contains(method.getName()), method + " has the name of one of the face");
                need(method.getParameterCount() <= 7, method + " has too many parameters");
            }
        }
        for (Field field : face.getDeclaredFields()) {
            boolean constant = CONSTANTS.contains(field.getName());
            need(constant ? Modifier.isPublic(field.getModifiers()) : Modifier.isPrivate(field.getModifiers()), field + " can be seen");
        }
    }

    private static String signature(Method method) {
        StringBuilder text = new StringBuilder(method.getReturnType() + " " + method.getName() + "(");
        for (Class<?> parameter : method.getParameterTypes()) {
            text.append(text.charAt(text.length() - 1) == '(' ? "" : ",").append(parameter);
        }
        return text.append(')').toString();
    }

    private static void fields(Class<?> owner) {
        int own = 0;
        for (Field field : owner.getDeclaredFields()) {
            if (Modifier.isStatic(field.getModifiers())) {
                boolean constant = Modifier.isFinal(field.getModifiers()) && field.getType() == int.class;
                need(constant, field + " is no constant");
            } else {
                own++;
            }
        }
        need(own <= 20, owner + " has " + own + " fields");
    }

    private static void methods(Class<?> owner, Set<String> faceNames) {
        for (Method method : owner.getDeclaredMethods()) {
            need(!faceNames.contains(method.getName()), method + " has the name of one of the face");
            need(!Set.of("equals", "hashCode", "toString").contains(method.getName()), method + " is barred");
            need(method.getParameterCount() <= 7, method + " has too many parameters");
        }
    }

    private static void words(String file) {
        String code = file.replaceAll("(?s)/\\*.*?\\*/", "").replaceAll("//[^\n]*", "");
        Matcher barred = BARRED.matcher(code);
        while (barred.find()) {
            need(false, "barred: " + barred.group());
        }
        Matcher made = Pattern.compile("\\bnew (\\w+)").matcher(code);
        Map<String, Integer> makes = new HashMap<>();
        while (made.find()) {
            makes.merge(made.group(1), 1, Integer::sum);
        }
        makes.keySet().removeAll(Set.of("int", "Lot", "Told", "Text", "Foretelling", "Notes", "Never", "Greedy", "Waiting", "Cheap"));
        need(makes.isEmpty(), "made besides: " + makes);
        Matcher library = Pattern.compile("\\b(System|Math|Integer|Long|Arrays|String|StringBuilder)\\.(\\w+)").matcher(code);
        while (library.find()) {
            boolean listed = Set.of("System.arraycopy", "Math.max", "Math.min").contains(library.group());
            need(listed, "not listed: " + library.group());
        }
        int length = 0;
        for (String line : code.split("\n")) {
            need(line.length() <= 120, "a long line: " + line);
            boolean begins = line.matches(" {4,8}[\\w\\[\\]]+ .*\\(.*\\) \\{") || line.matches(" {4,8}[\\w\\[\\]]+\\(.*\\) \\{");
            length = begins ? 1 : length + 1;
            need(!line.matches(" {4,8}\\}") || length <= 60, "a long method ends with " + length + " lines");
            length = line.matches(" {4,8}\\}") ? 0 : length;
        }
    }
}
