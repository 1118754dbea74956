import java.io.IOException;
import java.lang.reflect.Constructor;
import java.lang.reflect.Field;
import java.lang.reflect.Method;
import java.lang.reflect.Modifier;
import java.nio.file.Files;
import java.nio.file.Path;
import java.util.ArrayList;
import java.util.Arrays;
import java.util.List;
import java.util.Set;
import java.util.TreeSet;
import java.util.regex.Matcher;
import java.util.regex.Pattern;

/** The face that the document tells, and those rules of LANGUAGE.md that can be seen in the file. Run from the root. */
public final class LanguageTest {
    private static final String FACE = "int apart(int,int) int byRow(int,int,int) int came(int,int,int) int clear() "
            + "int copy(int,int,int) int count(int) long digest() int fell(int,int) int first(int) "
            + "int foresters(int,int,int,int) int forests(int,int,int) int forget(int) int from(int) int image(int) int is(int) "
            + "int meet(int,int) int most() int next(int) int note(int,int,int,int,int) int of(int,int) long part(int) "
            + "int put(int,int,int,int) int read() int season(int) int soonest(int,int,int,int) int status(int) "
            + "int storms(int,int,int) int touch(int,int,int) int tree(int) int type(int) int undo() int ways(int,int) "
            + "int whole(int,int,int,int) int wood(int)";
    private static int wrong = 0;

    private static void tell(String what) {
        wrong++;
        System.out.println(what);
    }

    private static void face() {
        Class<BarkPost> type = BarkPost.class;
        if (!Modifier.isFinal(type.getModifiers()) || !Modifier.isPublic(type.getModifiers())) tell("BarkPost is not public, final");
        List<String> found = new ArrayList<>();
        Set<String> names = new TreeSet<>();
        for (Method m : type.getDeclaredMethods()) {
            if (Modifier.isPrivate(m.getModifiers())) continue;
            if (!Modifier.isPublic(m.getModifiers()) || Modifier.isStatic(m.getModifiers())) tell("not of the face: " + m);
            String given = Arrays.toString(m.getParameterTypes()).replaceAll("[\\[\\] ]", "");
            found.add(m.getReturnType() + " " + m.getName() + "(" + given + ")");
            names.add(m.getName());
        }
        found.sort((p, q) -> p.split(" ")[1].compareTo(q.split(" ")[1]));
        if (!String.join(" ", found).equals(FACE)) tell("another face: " + found);
        for (Field f : type.getDeclaredFields()) {
            boolean constant = List.of("NONE", "BAD", "NO", "FULL").contains(f.getName());
            if (constant != Modifier.isPublic(f.getModifiers())) tell("field " + f);
            if (!constant && !Modifier.isPrivate(f.getModifiers())) tell("field " + f);
        }
        Constructor<?>[] makers = type.getDeclaredConstructors();
        if (makers.length != 1 || makers[0].getParameterCount() != 0) tell("another constructor");
        inside(type, names);
    }

    private static void inside(Class<?> type, Set<String> names) {
        Class<?>[] classes = type.getDeclaredClasses();
        if (classes.length > 11) tell("more than twelve classes");
        for (Class<?> c : classes) {
            if (!Modifier.isStatic(c.getModifiers())) tell("not static: " + c);
            for (Method m : c.getDeclaredMethods()) if (names.contains(m.getName())) tell("a name of the face: " + m);
            checkSizes(c);
        }
        for (Method m : type.getDeclaredMethods()) {
            if (Modifier.isPrivate(m.getModifiers()) && names.contains(m.getName())) tell("a name of the face: " + m);
        }
        checkSizes(type);
    }

    private static void checkSizes(Class<?> c) {
        int fields = 0;
        for (Field f : c.getDeclaredFields()) if (!Modifier.isStatic(f.getModifiers())) fields++;
            else if (!Modifier.isFinal(f.getModifiers())) tell("static and not final: " + f);
        if (fields > 20) tell("more than twenty fields: " + c);
        for (Method m : c.getDeclaredMethods()) if (m.getParameterCount() > 7) tell("more than seven parameters: " + m);
    }

    private static void words(String code) {
        String[] none = {"throw", "throws", "try", "catch", "finally", "synchronized", "assert", "import", "package", "protected",
            "HashMap", "Object", "hashCode", "toString", "Exact", "transient", "volatile", "native", "var", "yield"};
        for (String word : none) if (Pattern.compile("\\b" + word + "\\b").matcher(code).find()) tell("the word " + word);
        if (code.contains("->") || code.contains("::") || code.contains("@")) tell("a lambda, a method reference, an annotation");
        if (Pattern.compile("static\\s*\\{").matcher(code).find()) tell("a static block");
        Matcher calls = Pattern.compile("\\b(System|Math|Integer|Long|Arrays|Character)\\.(\\w+)").matcher(code);
        while (calls.find()) {
            if (!List.of("System.arraycopy", "Math.min", "Math.max", "Integer.bitCount").contains(calls.group())) {
                tell("the library's " + calls.group());
            }
        }
    }

    /** All that is used is made with the object: what a run makes does not grow with its calls. */
    private static void onlyConstructorsMake(String code) {
        String outside = code.replaceAll("(?s)\n    public BarkPost\\(\\) \\{.*?\n    \\}", "");
        if (outside.equals(code)) tell("the constructor is not found");
        for (String line : outside.split("\n")) {
            boolean field = line.matches("        (private )?final int\\[\\] \\w+ = new int\\[.*\\];");
            if (line.matches(".*\\bnew\\b.*") && !field) tell("made by a call: " + line.trim());
            if (line.matches(".*(\\.clone\\(|\\bcopyOf|\\bvalues\\(|\\bString\\w* \\w+ =|\\bInteger \\w).*")) tell("made by a call: " + line.trim());
        }
    }

    private static void methodsStayShort(List<String> lines) {
        int begin = -1;
        for (int i = 0; i < lines.size(); i++) {
            String line = lines.get(i);
            boolean head = line.matches("( {4}| {8})[a-z].*\\) \\{") && !line.trim().startsWith("for") && !line.trim().startsWith("if");
            if (head && begin < 0) begin = i;
            if (begin >= 0 && line.matches("( {4}| {8})\\}") && line.indexOf('}') == lines.get(begin).length() - lines.get(begin).trim().length()) {
                if (i - begin > 60) tell("a long method: " + lines.get(begin).trim());
                begin = -1;
            }
        }
    }

    public static void main(String[] args) throws IOException {
        Path file = Path.of("src/main/java/BarkPost.java");
        String text = Files.readString(file);
        for (char c : text.toCharArray()) if (c > 126 || c < 32 && c != '\n') { tell("a sign outside ASCII"); break; }
        String code = text.replaceAll("(?s)/\\*.*?\\*/", "").replaceAll("//[^\n]*", "").replaceAll("\"[^\"\n]*\"", "\"\"");
        face();
        words(code);
        onlyConstructorsMake(code);
        methodsStayShort(Files.readAllLines(file));
        System.out.println(wrong == 0 ? "the face and the rules are kept" : wrong + " rules are not kept");
        if (wrong != 0) System.exit(1);
    }
}
