import java.io.IOException;
import java.lang.reflect.Constructor;
import java.lang.reflect.Field;
import java.lang.reflect.Method;
import java.lang.reflect.Modifier;
import java.nio.file.Files;
import java.nio.file.Path;
import java.util.ArrayList;
import java.util.Arrays;
import java.util.List;
import java.util.TreeSet;
import java.util.regex.Matcher;
import java.util.regex.Pattern;

/** The form of the source, as far as LANGUAGE.md can be looked at by a program, and the public face. */
public final class FormTest {
    private static final Check check = new Check();
    private static final String[] FACE = {
        "int door(int,int)", "int hears(int,int)", "int one(int,int,int)", "int mates(int,int)",
        "int goes(int,int)", "int chord(int,int,int,int)", "int slack(int)", "int sounds(int,int)",
        "int type(long,int)", "int clear()", "int read()", "int says(int,int)", "int said(int)",
        "int byDoor(int,int)", "int fewest(int,int)", "int speak(int)", "int hush()", "int fetch(int)",
        "int inTime(int)", "int taken(int,int,int)", "int drop(int)", "int news(int,int,int)", "int hole(int)",
        "int whole()", "int meant(int)", "int ways()", "int odds(int,int)", "int block(int,int)",
        "int swing(int,int,int)", "int song(int,int,int)", "int couple(int)", "long part(int)", "int image(int)",
        "int from(int)", "int status(int)", "int count(int)", "long digest()"};

    public static void main(String[] args) throws IOException {
        face();
        nestedClasses();
        String code = withoutComments(Files.readString(Path.of("src/main/java/OneNote.java")));
        words(code);
        methodLengths(code);
        objects(code);
        check.end();
    }

    private static void none(String what, List<String> found) {
        if (!found.isEmpty()) {
            System.out.println(what + ": " + found);
        }
        check.due(what, found.size(), 0);
    }

    private static void face() {
        check.about("rule 1");
        TreeSet<String> want = new TreeSet<>(Arrays.asList(FACE));
        TreeSet<String> got = new TreeSet<>();
        List<String> visible = new ArrayList<>();
        for (Method m : OneNote.class.getDeclaredMethods()) {
            String parameters = String.join(",", Arrays.stream(m.getParameterTypes()).map(Class::getName).toList());
            if (Modifier.isPublic(m.getModifiers()) && !Modifier.isStatic(m.getModifiers())) {
                got.add(m.getReturnType().getName() + " " + m.getName() + "(" + parameters + ")");
            } else if (!Modifier.isPrivate(m.getModifiers()) && !m.isSynthetic()) {
                visible.add(m.getName());
            }
        }
        check.due("the public methods are the document's", got.equals(want) ? 1 : 0, 1);
        for (Field f : OneNote.class.getDeclaredFields()) {
            if (!Modifier.isPrivate(f.getModifiers()) && !List.of("NONE", "BAD", "NO", "FULL").contains(f.getName())) {
                visible.add(f.getName());
            }
        }
        none("other visible members", visible);
        Constructor<?>[] made = OneNote.class.getDeclaredConstructors();
        check.due("constructors", made.length, 1);
        check.due("its parameters", made[0].getParameterCount(), 0);
        check.due("it is public", Modifier.isPublic(made[0].getModifiers()) ? 1 : 0, 1);
        check.due("the class is public and final", OneNote.class.getModifiers(), Modifier.PUBLIC | Modifier.FINAL);
    }

    private static void nestedClasses() {
        check.about("rules 1, 2, 5, 11");
        List<Class<?>> all = new ArrayList<>(List.of(OneNote.class.getDeclaredClasses()));
        List<String> wrong = new ArrayList<>();
        TreeSet<String> names = new TreeSet<>();
        for (String call : FACE) {
            names.add(call.replaceAll("^\\w+ |\\(.*", ""));
        }
        for (Class<?> c : all) {
            if (!Modifier.isStatic(c.getModifiers()) || Modifier.isPublic(c.getModifiers())) {
                wrong.add(c.getName());
            }
            for (Method m : c.getDeclaredMethods()) {
                if (names.contains(m.getName())) {
                    wrong.add(c.getName() + "." + m.getName() + " bears a public name");
                }
            }
        }
        all.add(OneNote.class);
        for (Class<?> c : all) {
            int fields = 0;
            for (Field f : c.getDeclaredFields()) {
                boolean isStatic = Modifier.isStatic(f.getModifiers());
                fields += isStatic ? 0 : 1;
                if (isStatic && !Modifier.isFinal(f.getModifiers())) {
                    wrong.add(c.getName() + "." + f.getName() + " is not final");
                }
            }
            if (fields > 20) {
                wrong.add(c.getName() + " has " + fields + " fields");
            }
            for (Method m : c.getDeclaredMethods()) {
                if (m.getParameterCount() > 7) {
                    wrong.add(m.getName() + " has too many parameters");
                }
            }
        }
        none("classes and members", wrong);
        check.due("at most twelve classes", all.size() <= 12 ? 1 : 0, 1);
    }

    private static String withoutComments(String source) {
        return source.replaceAll("(?s)/\\*.*?\\*/", "").replaceAll("//[^\n]*", "");
    }

    private static void words(String code) {
        check.about("rules 2, 4, 6, 10, 13");
        String[] forbidden = {"\\bthrow\\b", "\\bthrows\\b", "\\btry\\b", "\\bcatch\\b", "\\bsynchronized\\b",
            "\\bassert\\b", "->", "::", "Exact\\b", "\\bpackage\\b", "\\bRandom\\b", "\\bThread\\b", "\\bSystem\\.(?!arraycopy)",
            "\\bMath\\.(?!min|max|abs|floor)", "\\bInteger\\.(?!bitCount|compare|max|min)", "\\bString\\.", "\\bObject\\b",
            "import (?!java\\.util\\.Arrays;)", "\\bArrays\\.(?!fill|copyOf)", "static \\{", "\"\\s*\\+|\\+\\s*\"",
            "[^\\x00-\\x7f]"};
        for (String f : forbidden) {
            List<String> found = new ArrayList<>();
            Matcher m = Pattern.compile(f).matcher(code);
            while (m.find()) {
                found.add(code.substring(m.start(), Math.min(code.length(), m.start() + 30)));
            }
            none(f, found);
        }
    }

    private static void methodLengths(String code) {
        check.about("rule 11");
        List<String> tooLong = new ArrayList<>();
        String head = "";
        int lines = 0;
        for (String line : code.split("\n")) {
            lines++;
            if (line.matches("(    |        )[\\w<][^=;]*\\(.*\\{")) {
                head = line.trim();
                lines = 0;
            }
            if (line.matches("(    |        )\\}") && lines > 60 && !head.isEmpty()) {
                tooLong.add(head);
            }
        }
        none("methods over sixty lines", tooLong);
    }

    /** Rule 12 allows more, but a run of calls has little room: all that is made is made with the object. */
    private static void objects(String code) {
        check.about("rule 12");
        List<String> made = new ArrayList<>();
        for (String line : code.split("\n")) {
            if (line.matches(".*\\b(new|clone|copyOf|copyOfRange|toCharArray|substring)\\b.*")
                && !line.matches("\\s+private final .*;")) {
                made.add(line.trim());
            }
        }
        none("objects that a call makes", made);
    }
}
