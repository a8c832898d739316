import java.io.IOException;
import java.lang.reflect.Field;
import java.lang.reflect.Method;
import java.lang.reflect.Modifier;
import java.nio.file.Files;
import java.nio.file.Path;
import java.util.Arrays;
import java.util.Set;
import java.util.TreeSet;
import java.util.regex.Matcher;
import java.util.regex.Pattern;

/** What of ../shared/LANGUAGE.md can be seen by reflection and by words; run from the project's root. */
public final class LanguageTest {
    private static final String[] FORBIDDEN = {"throw", "throws", "try", "catch", "finally", "synchronized", "assert",
        "volatile", "transient", "native", "strictfp", "var", "Object", "Random", "System\\.(?!arraycopy)\\w+",
        "Thread", "hashCode", "toString", "equals", "->", "::", "\\w+Exact", "static \\{", "package", "protected",
        "import (?!java\\.util\\.Arrays;)"};
    private static final Set<String> FACE = new TreeSet<>(Arrays.asList(
        "int feed(int,int,int,int,int)", "int end(int)", "int send(int,int)", "boolean rate(int,int)",
        "int tick(int,int,int)", "int renew()", "int block(int,int)", "int sender(int,int,int)",
        "int receiver(int,int,int)", "int delivered(int,int,int)", "int unit(int,int,int)",
        "int process(int,int,int)", "int world(int)"));
    private static int wrong;

    public static void main(String[] args) throws IOException {
        String source = Files.readString(Path.of("src/main/java/BearerHouse.java"));
        lookForWords(source.replaceAll("(?s)/\\*.*?\\*/|//[^\n]*", " "));
        lookAtMethodLengths(source);
        lookAtFace();
        lookAtClass(BearerHouse.class);
        Class<?>[] inside = BearerHouse.class.getDeclaredClasses();
        ask("at most twelve classes", inside.length + 1 <= 12);
        for (Class<?> c : inside) {
            ask(c + " is static", Modifier.isStatic(c.getModifiers()));
            lookAtClass(c);
        }
        System.out.println(wrong == 0 ? "the language is kept" : wrong + " breaches of the language");
        if (wrong != 0) {
            System.exit(1);
        }
    }

    private static void ask(String what, boolean isTrue) {
        if (!isTrue) {
            wrong++;
            System.out.println("not so: " + what);
        }
    }

    private static void lookForWords(String code) {
        for (String word : FORBIDDEN) {
            String whole = Character.isLetter(word.charAt(0)) ? "\\b" + word + "\\b" : word;
            Matcher m = Pattern.compile(word.contains("(?!") ? word : whole).matcher(code);
            ask("no " + word, !m.find());
        }
    }

    private static void lookAtMethodLengths(String source) {
        int begin = 0;
        String[] lines = source.split("\n");
        for (int i = 0; i < lines.length; i++) {
            if (lines[i].isBlank()) {
                begin = i;
            }
            ask("line " + (i + 1) + " ends a method of at most 60 lines", i - begin <= 60);
        }
    }

    private static void lookAtFace() {
        Set<String> face = new TreeSet<>();
        for (Method m : BearerHouse.class.getDeclaredMethods()) {
            if (!Modifier.isPrivate(m.getModifiers())) {
                StringBuilder text = new StringBuilder(m.getReturnType() + " " + m.getName() + "(");
                for (Class<?> type : m.getParameterTypes()) {
                    text.append(text.charAt(text.length() - 1) == '(' ? "" : ",").append(type);
                }
                face.add(text.append(")").toString());
            }
        }
        ask("the face is the document's: " + face, face.equals(FACE));
        ask("public and final", Modifier.isPublic(BearerHouse.class.getModifiers())
            && Modifier.isFinal(BearerHouse.class.getModifiers()));
        ask("one constructor", BearerHouse.class.getDeclaredConstructors().length == 1);
    }

    private static void lookAtClass(Class<?> c) {
        int fields = 0;
        for (Field f : c.getDeclaredFields()) {
            boolean isConstant = Modifier.isStatic(f.getModifiers());
            fields += isConstant ? 0 : 1;
            ask(f + " is final", !isConstant || Modifier.isFinal(f.getModifiers()));
            ask(f + " is private", Modifier.isPrivate(f.getModifiers()) || f.getName().equals("NONE"));
        }
        ask(c + " has at most twenty fields", fields <= 20);
        for (Method m : c.getDeclaredMethods()) {
            ask(m + " has at most seven parameters", m.getParameterCount() <= 7);
            boolean isOfFace = c == BearerHouse.class && Modifier.isPublic(m.getModifiers());
            boolean bearsItsName = FACE.stream().anyMatch(f -> f.contains(" " + m.getName() + "("));
            ask(m + " has a name of its own", isOfFace || !bearsItsName);
        }
    }
}
