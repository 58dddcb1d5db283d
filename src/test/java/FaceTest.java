import java.io.IOException;
import java.lang.reflect.Field;
import java.lang.reflect.Method;
import java.lang.reflect.Modifier;
import java.nio.file.Files;
import java.nio.file.Path;
import java.util.TreeSet;
import java.util.regex.Matcher;
import java.util.regex.Pattern;

/** The class has the document's face and no more, and its source keeps to what LANGUAGE.md leaves. */
public final class FaceTest {
    private static final String[] FACE = {
        "int type(long,int)", "int clear()", "int hall()", "int cell(int,int)", "int lamp(int,int)",
        "int person(int,int)", "int can(int)", "int leaves(int,int)", "int undo()", "int most()",
        "int order(int,int)", "int rows()", "int bar()", "int grief()", "int game()", "int worth(int,int)",
        "int saw(int,int,int)", "int forget()", "int fits()", "int who(int)", "int mark(int,int)",
        "int keep(int)", "int back(int)", "int count(int)", "long trace()"};
    private static final String[] CONSTANTS = {"BAD", "STATE", "FULL", "NONE", "NO"};
    private static final String[] RULED_OUT = {"throw", "try", "catch", "synchronized", "assert", "import",
        "->", "::", "Object", "Exact", "volatile", "protected", "@"};
    private static final Due due = new Due("FaceTest");

    public static void main(String[] args) throws IOException {
        methods();
        fields();
        due.is("constructors", DarkLeavers.class.getConstructors().length, 1);
        due.holds("final", Modifier.isFinal(DarkLeavers.class.getModifiers()));
        nested();
        source(Files.readString(Path.of(args.length > 0 ? args[0] : "src/main/java/DarkLeavers.java")));
        due.end();
    }

    private static void methods() {
        TreeSet<String> wanted = new TreeSet<>();
        for (String call : FACE) {
            wanted.add(call);
        }
        TreeSet<String> names = new TreeSet<>();
        TreeSet<String> found = new TreeSet<>();
        for (Method m : DarkLeavers.class.getDeclaredMethods()) {
            if (!Modifier.isPrivate(m.getModifiers())) {
                found.add(shown(m));
                names.add(m.getName());
            }
        }
        due.holds("the methods are the document's: " + found, found.equals(wanted));
        for (Method m : DarkLeavers.class.getDeclaredMethods()) {
            boolean own = Modifier.isPrivate(m.getModifiers());
            due.holds("a name of its own: " + m.getName(), !own || !names.contains(m.getName()));
        }
    }

    private static String shown(Method m) {
        StringBuilder text = new StringBuilder(m.getReturnType().getName()).append(' ').append(m.getName()).append('(');
        for (int i = 0; i < m.getParameterCount(); i++) {
            text.append(i > 0 ? "," : "").append(m.getParameterTypes()[i].getName());
        }
        return text.append(')').toString();
    }

    private static void fields() {
        TreeSet<String> found = new TreeSet<>();
        for (Field f : DarkLeavers.class.getDeclaredFields()) {
            if (!Modifier.isPrivate(f.getModifiers())) {
                found.add(f.getName());
            }
        }
        due.is("constants", found.size(), CONSTANTS.length);
        for (String name : CONSTANTS) {
            due.holds("constant " + name, found.contains(name));
        }
    }

    private static void nested() {
        for (Class<?> c : DarkLeavers.class.getDeclaredClasses()) {
            due.holds("static " + c, Modifier.isStatic(c.getModifiers()));
            for (Field f : c.getDeclaredFields()) {
                boolean shared = Modifier.isStatic(f.getModifiers());
                due.holds("no static state " + f, !shared || Modifier.isFinal(f.getModifiers()));
            }
        }
        due.holds("twelve classes", DarkLeavers.class.getDeclaredClasses().length <= 11);
        sizes(DarkLeavers.class);
        for (Class<?> c : DarkLeavers.class.getDeclaredClasses()) {
            sizes(c);
        }
    }

    // "A method takes at most seven parameters .. a class some twenty fields beside its constants"
    private static void sizes(Class<?> c) {
        int fields = 0;
        for (Field f : c.getDeclaredFields()) {
            fields += Modifier.isStatic(f.getModifiers()) ? 0 : 1;
        }
        due.holds("twenty fields in " + c, fields <= 20);
        for (Method m : c.getDeclaredMethods()) {
            due.holds("seven parameters of " + m, m.getParameterCount() <= 7);
        }
    }

    private static void source(String text) {
        String code = Pattern.compile("/\\*.*?\\*/|//[^\n]*", Pattern.DOTALL).matcher(text).replaceAll("");
        for (String word : RULED_OUT) {
            String pattern = Character.isLetter(word.charAt(0)) ? "\\b\\w*" + word + "\\b" : Pattern.quote(word);
            Matcher m = Pattern.compile(pattern).matcher(code);
            due.holds("no " + word + " in the source", !m.find());
        }
        due.holds("no package line", !Pattern.compile("(?m)^package").matcher(code).find());
        for (int i = 0; i < text.length(); i++) {
            if (text.charAt(i) > 126) {
                due.is("sign at " + i, text.charAt(i), 32);
            }
        }
    }
}
