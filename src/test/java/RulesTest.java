import java.lang.reflect.Field;
import java.lang.reflect.Method;
import java.lang.reflect.Modifier;
import java.nio.charset.StandardCharsets;
import java.nio.file.Files;
import java.nio.file.Path;
import java.util.ArrayList;
import java.util.Arrays;
import java.util.List;
import java.util.Set;
import java.util.TreeSet;
import java.util.regex.Matcher;
import java.util.regex.Pattern;

/** The document's face, and the rules of LANGUAGE.md that a look at the class or its text can show. */
public final class RulesTest {
    private static final String FACE = """
        feed:int,int,int,int,int store:int fault:int item:int,int lies:int,int box:int,int may:int,int put:int,int
        take:int empty: over:int,int judge:int,int perform:int packing:int,int how:int,int lost:int most:int,int,int
        household:int,boolean,int holds:int,boolean,int shut:int,int shutIn:int,int,int even:int,int,int,int
        lightestFor:int nest:int voyage:int voyages:int,int chest:int,int,int,int sure:int,int,int,int,boolean
        look:int,int,int,int looks:int,int,int,int sounded:int,int,int,int needs:int room:int,int,int deepest:int
        carriers:int,int numbers:int,int,int write:int,int,long copy:int image:int restore:int count:int""";
    private static final String[] FORBIDDEN = {
        "\\bthrow\\b", "\\bthrows\\b", "\\btry\\b", "\\bcatch\\b", "\\bfinally\\b", "\\bsynchronized\\b", "\\bassert\\b", "->", "::",
        "Exact\\s*\\(", "\\bprotected\\b", "\\bpackage\\b", "\\bSystem\\.(?!arraycopy)", "\\bstatic\\s*\\{", "\\bdouble\\b",
        "\\bfloat\\b", "\\bequals\\s*\\(", "\\bhashCode\\b", "\\btoString\\b", "\"\\s*\\+", "\\+\\s*\""};

    public static void main(String[] args) throws Exception {
        face();
        String source = Files.readString(Path.of("src/main/java/LargerWithin.java"), StandardCharsets.ISO_8859_1);
        for (int k = 0; k < source.length(); k++) {
            if (source.charAt(k) > 126) Due.isTrue("only plain signs, at " + k, false);
        }
        String bare = withoutComments(source);
        for (String word : FORBIDDEN) {
            Matcher m = Pattern.compile(word).matcher(bare);
            Due.isTrue("none of " + word, !m.find());
        }
        imports(bare);
        methods(bare);
        members();
        Due.end("RulesTest");
    }

    private static void face() {
        Set<String> due = new TreeSet<>(Arrays.asList(FACE.trim().split("\\s+")));
        Set<String> got = new TreeSet<>();
        for (Method m : LargerWithin.class.getDeclaredMethods()) {
            if (Modifier.isPrivate(m.getModifiers())) continue;
            List<String> types = new ArrayList<>();
            for (Class<?> type : m.getParameterTypes()) types.add(type.getName());
            got.add(m.getName() + ":" + String.join(",", types));
            String answer = m.getName().equals("write") ? "long" : "int";
            Due.isTrue("answer of " + m.getName(), m.getReturnType().getName().equals(answer));
            Due.isTrue("public " + m.getName(), Modifier.isPublic(m.getModifiers()) && !Modifier.isStatic(m.getModifiers()));
        }
        Due.isTrue("the face is " + due + ", not " + got, got.equals(due));
        Due.isTrue("final", Modifier.isFinal(LargerWithin.class.getModifiers()) && Modifier.isPublic(LargerWithin.class.getModifiers()));
        Due.is("constructors", LargerWithin.class.getDeclaredConstructors().length, 1);
        for (Field f : LargerWithin.class.getDeclaredFields()) {
            Due.isTrue("private " + f.getName(), Modifier.isPrivate(f.getModifiers()) || f.getName().equals("NONE"));
        }
    }

    private static void imports(String bare) {
        Matcher m = Pattern.compile("import\\s+([\\w.]+)").matcher(bare);
        while (m.find()) Due.isTrue("import " + m.group(1), m.group(1).equals("java.util.Arrays"));
    }

    private static void members() {
        Set<String> open = new TreeSet<>();
        for (Method m : LargerWithin.class.getMethods()) if (m.getDeclaringClass() == LargerWithin.class) open.add(m.getName());
        Class<?>[] inner = LargerWithin.class.getDeclaredClasses();
        Due.isTrue("some twelve classes", inner.length <= 11);
        List<Class<?>> all = new ArrayList<>(Arrays.asList(inner));
        all.add(LargerWithin.class);
        for (Class<?> c : all) {
            Due.isTrue("static " + c.getName(), c == LargerWithin.class || Modifier.isStatic(c.getModifiers()));
            int fields = 0;
            for (Field f : c.getDeclaredFields()) {
                boolean isStatic = Modifier.isStatic(f.getModifiers());
                Due.isTrue("final if static: " + f, !isStatic || Modifier.isFinal(f.getModifiers()));
                if (!isStatic) fields++;
            }
            Due.isTrue("some twenty fields in " + c.getName(), fields <= 20);
            for (Method m : c.getDeclaredMethods()) {
                Due.isTrue("parameters of " + m, m.getParameterCount() <= 7);
                boolean isFace = c == LargerWithin.class && Modifier.isPublic(m.getModifiers());
                Due.isTrue("a name of its own: " + m, isFace || !open.contains(m.getName()));
            }
        }
    }

    /** A method begins at a line that ends with ") {" four or eight blanks in, and ends at the brace there. */
    private static void methods(String bare) {
        String[] lines = bare.split("\n");
        for (int at = 0; at < lines.length; at++) {
            Matcher m = Pattern.compile("^( {4}| {8})(?! )(?!if|for|while|switch|else|do).*\\) \\{$").matcher(lines[at]);
            if (!m.find()) continue;
            int end = at;
            while (end < lines.length && !lines[end].equals(m.group(1) + "}")) end++;
            Due.isTrue("short: " + lines[at].trim(), end - at < 60);
        }
    }

    private static String withoutComments(String source) {
        return source.replaceAll("(?s)/\\*.*?\\*/", "").replaceAll("//[^\n]*", "");
    }
}
