import java.lang.reflect.Field;
import java.lang.reflect.Method;
import java.lang.reflect.Modifier;
import java.nio.file.Files;
import java.nio.file.Path;
import java.util.Map;
import java.util.TreeMap;
import java.util.TreeSet;
import java.util.regex.Matcher;
import java.util.regex.Pattern;

/** The public face as the document writes it, and those rules of LANGUAGE.md that a text can show. */
public final class FaceTest {
    private static final String METHODS = "add(int):int clear():int close():int count(int):int flush():int "
            + "hit(int,int):int merge(int,int):int number(int,int):boolean object(int,int,int):int open(int):int "
            + "refresh():int remove(int):boolean score(int):int search():int token(int,int,int):int "
            + "type(int,int):int wipe():int word(int,int):int";

    public static void main(String[] args) throws Exception {
        constants();
        members();
        sourceRules();
        Checks.end();
    }

    private static void constants() {
        Checks.due("REFUSED", BlockSearch.REFUSED, -1);
        Checks.due("NONE", BlockSearch.NONE, -2);
        Checks.due("FULL", BlockSearch.FULL, -3);
        Checks.due("CONFLICT", BlockSearch.CONFLICT, -4);
    }

    private static void members() {
        Class<?> face = BlockSearch.class;
        Checks.due("public and final", face.getModifiers(), Modifier.PUBLIC | Modifier.FINAL);
        Checks.due("constructors", face.getDeclaredConstructors().length, 1);
        Checks.due("public constructors", face.getConstructors().length, 1);
        TreeSet<String> methods = new TreeSet<>();
        TreeSet<String> names = new TreeSet<>();
        for (Method method : face.getDeclaredMethods()) {
            if (!Modifier.isPrivate(method.getModifiers())) {
                methods.add(written(method));
                names.add(method.getName());
            }
        }
        Checks.same("methods", String.join(" ", methods), METHODS);
        for (Method method : face.getDeclaredMethods()) {
            boolean hidden = Modifier.isPrivate(method.getModifiers());
            Checks.due(method.getName() + " is a private one's name too", hidden && names.contains(method.getName()), false);
        }
        TreeSet<String> fields = new TreeSet<>();
        for (Field field : face.getDeclaredFields()) {
            int modifiers = field.getModifiers();
            if (!Modifier.isPrivate(modifiers)) {
                fields.add(field.getName());
            }
            Checks.due(field.getName() + " is static and not final",
                    Modifier.isStatic(modifiers) && !Modifier.isFinal(modifiers), false);
        }
        Checks.same("fields", String.join(" ", fields), "CONFLICT FULL NONE REFUSED");
        Map<String, Integer> inside = new TreeMap<>();
        for (Class<?> own : face.getDeclaredClasses()) {
            inside.put(own.getSimpleName(), own.getModifiers());
            Checks.due(own.getSimpleName() + " is static", Modifier.isStatic(own.getModifiers()), true);
        }
        Checks.due("at most twelve classes", inside.size() <= 12, true);
    }

    private static String written(Method method) {
        StringBuilder text = new StringBuilder(method.getName()).append('(');
        Class<?>[] types = method.getParameterTypes();
        for (int i = 0; i < types.length; i++) {
            text.append(i == 0 ? "" : ",").append(types[i].getName());
        }
        return text.append("):").append(method.getReturnType().getName()).toString();
    }

    private static void sourceRules() throws Exception {
        String source = Files.readString(Path.of("src/main/java/BlockSearch.java"));
        String code = source.replaceAll("(?s)/\\*.*?\\*/", "").replaceAll("//[^\n]*", "");
        String[] ruledOut = {"\\bimport\\b", "\\bpackage\\b", "\\bthrow\\b", "\\bthrows\\b", "\\btry\\b", "\\bcatch\\b",
            "\\bsynchronized\\b", "\\bassert\\b", "->", "::", "\\bequals\\b", "\\bhashCode\\b", "\\btoString\\b",
            "static\\s*\\{", "\\bRandom\\b", "\\bThread\\b", "System\\.(?!arraycopy)", "\"\\s*\\+", "Exact\\b"};
        for (String rule : ruledOut) {
            Matcher matcher = Pattern.compile(rule).matcher(code);
            Checks.due("the program has " + rule, matcher.find(), false);
        }
    }
}
