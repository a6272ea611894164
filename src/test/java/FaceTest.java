import java.io.IOException;
import java.lang.reflect.Constructor;
import java.lang.reflect.Field;
import java.lang.reflect.Method;
import java.lang.reflect.Modifier;
import java.nio.file.Files;
import java.nio.file.Path;
import java.util.ArrayList;
import java.util.Arrays;
import java.util.List;
import java.util.Set;
import java.util.TreeSet;
import java.util.regex.Matcher;
import java.util.regex.Pattern;

/** The public face of the document, and those rules of LANGUAGE.md that can be seen from outside. */
public final class FaceTest {
    private static final String FACE = "feed(int,int,int,int,int)int end(int)boolean pyramid()int day()int "
            + "fault(int)int named()int resign(int)boolean refuse(int)boolean deduct(int,int)boolean "
            + "grade(int,int)boolean close()int undo()boolean club(int,int)int of(int,int)int points(int)int "
            + "average(int)int ranked(int,int,int)int order(int,int)int level(int,int)int moves(int,int,int)int "
            + "would(int)int needs(int)int parted(int)int swap(int,int)int middle(int)int rest(int,int)long "
            + "match(int,int,int)int above(int)int journeys(int)int nearest(int)int versus(int,int)int "
            + "strangers(int)int show(int,int)int out(int)int look(int)int";

    public static void main(String[] args) throws IOException {
        face();
        inside();
        source();
        Check.finish();
    }

    private static void face() {
        Class<?> c = LeagueLevels.class;
        Check.due("public", Modifier.isPublic(c.getModifiers()), true);
        Check.due("final", Modifier.isFinal(c.getModifiers()), true);
        Set<String> methods = new TreeSet<>();
        Set<String> names = new TreeSet<>();
        for (Method m : c.getDeclaredMethods()) {
            if (!Modifier.isPrivate(m.getModifiers())) {
                Check.due("public: " + m, Modifier.isPublic(m.getModifiers()), true);
                List<String> types = new ArrayList<>();
                for (Class<?> p : m.getParameterTypes()) {
                    types.add(p.getName());
                }
                methods.add(m.getName() + "(" + String.join(",", types) + ")" + m.getReturnType().getName());
                names.add(m.getName());
            }
        }
        Check.due("methods", methods.toString(), new TreeSet<>(Arrays.asList(FACE.split(" "))).toString());
        for (Class<?> one : allClasses()) {
            for (Method m : one.getDeclaredMethods()) {
                Check.due("a name of its own: " + m, one != c && names.contains(m.getName()), false);
            }
        }
        for (Field f : c.getDeclaredFields()) {
            if (!Modifier.isPrivate(f.getModifiers())) {
                Check.due("the one constant", f.getName(), "NONE");
            }
        }
        Check.due("one constructor", c.getDeclaredConstructors().length, 1);
        for (Constructor<?> k : c.getDeclaredConstructors()) {
            Check.due("without arguments", k.getParameterCount(), 0);
            Check.due("public", Modifier.isPublic(k.getModifiers()), true);
        }
    }

    private static List<Class<?>> allClasses() {
        List<Class<?>> all = new ArrayList<>();
        all.add(LeagueLevels.class);
        all.addAll(Arrays.asList(LeagueLevels.class.getDeclaredClasses()));
        return all;
    }

    private static void inside() {
        Check.due("some twelve classes", allClasses().size() <= 12, true);
        for (Class<?> c : allClasses()) {
            Check.due("static: " + c, c == LeagueLevels.class || Modifier.isStatic(c.getModifiers()), true);
            int fields = 0;
            for (Field f : c.getDeclaredFields()) {
                if (Modifier.isStatic(f.getModifiers())) {
                    Check.due("final: " + f, Modifier.isFinal(f.getModifiers()), true);
                } else {
                    fields++;
                }
            }
            Check.due("some twenty fields: " + c, fields <= 20, true);
            for (Method m : c.getDeclaredMethods()) {
                Check.due("seven parameters: " + m, m.getParameterCount() <= 7, true);
            }
        }
    }

    private static void source() throws IOException {
        String text = Files.readString(Path.of("src/main/java/LeagueLevels.java"));
        String code = text.replaceAll("(?s)/\\*.*?\\*/", "").replaceAll("//[^\n]*", "");
        for (String word : new String[] {"\\bpackage\\b", "\\btry\\b", "\\bcatch\\b", "\\bthrows?\\b",
            "\\bfinally\\b", "\\bsynchronized\\b", "\\bassert\\b", "\\bFloat\\b", "\\bDouble\\b",
            "\\bSystem\\.(?!arraycopy)", "\\bObject\\b", "->", "::", "Exact\\b", "while *\\(true", "for *\\(;",
            "\\bhashCode\\b", "\\bequals\\b", "\\bvolatile\\b", "\\bnative\\b", "\\binterface\\b"}) {
            Matcher m = Pattern.compile(word).matcher(code);
            Check.due("without " + word, m.find(), false);
        }
        Check.due("imports", code.split("import ", -1).length - 1, 1);
        int start = 0;
        String[] lines = text.split("\n");
        for (int i = 0; i < lines.length; i++) {
            if (lines[i].matches(" {4,8}\\S.*\\) \\{")) {
                start = i;
            }
            if (lines[i].matches(" {4,8}\\}")) {
                Check.due("short: " + lines[start].trim(), i - start < 60 || lines[i].length() == 5, true);
            }
            for (char sign : lines[i].toCharArray()) {
                Check.due("signs 1 to 127 in line " + (i + 1), sign > 0 && sign < 128, true);
            }
        }
    }
}
