import java.lang.reflect.Constructor;
import java.lang.reflect.Field;
import java.lang.reflect.Method;
import java.lang.reflect.Modifier;
import java.nio.file.Files;
import java.nio.file.Path;
import java.util.ArrayList;
import java.util.Arrays;
import java.util.List;
import java.util.TreeSet;
import java.util.regex.Matcher;
import java.util.regex.Pattern;

/** The face of the class as the document has it, and the rules of LANGUAGE.md that the source shows. */
public final class LanguageTests {
    private static final Due due = new Due();

    private static TreeSet<String> facePromised() throws Exception {
        TreeSet<String> face = new TreeSet<>();
        String doc = Files.readString(Path.of("../shared/DOC.md"));
        Matcher m = Pattern.compile("(?m)^    public (int|boolean) (\\w+)\\(([^)]*)\\);").matcher(doc);
        while (m.find()) {
            List<String> types = new ArrayList<>();
            for (String parameter : m.group(3).isEmpty() ? new String[0] : m.group(3).split(", ")) {
                types.add(parameter.split(" ")[0]);
            }
            face.add(m.group(1) + " " + m.group(2) + types);
        }
        return face;
    }

    private static void face() throws Exception {
        TreeSet<String> face = new TreeSet<>();
        TreeSet<String> names = new TreeSet<>();
        for (Method m : LostBuyer.class.getDeclaredMethods()) {
            if (!Modifier.isPrivate(m.getModifiers())) {
                List<String> types = new ArrayList<>();
                for (Class<?> type : m.getParameterTypes()) {
                    types.add(type.getName());
                }
                face.add(m.getReturnType().getName() + " " + m.getName() + types);
                names.add(m.getName());
                due.is(m + " is public and no static", Modifier.isPublic(m.getModifiers())
                        && !Modifier.isStatic(m.getModifiers()), true);
            }
        }
        due.is("methods of the face, " + face, face.equals(facePromised()), true);
        due.is("how many methods", face.size(), 43);
        for (Field f : LostBuyer.class.getDeclaredFields()) {
            due.is(f + " is private, but for NONE", Modifier.isPrivate(f.getModifiers()), !f.getName().equals("NONE"));
        }
        Constructor<?>[] constructors = LostBuyer.class.getDeclaredConstructors();
        due.is("one constructor", constructors.length, 1);
        due.is("it is public", Modifier.isPublic(constructors[0].getModifiers()), true);
        due.is("the class is final", Modifier.isFinal(LostBuyer.class.getModifiers()), true);
        List<Class<?>> classes = new ArrayList<>(Arrays.asList(LostBuyer.class.getDeclaredClasses()));
        classes.add(LostBuyer.class);
        due.is("twelve classes at most", classes.size() <= 12, true);
        for (Class<?> c : classes) {
            insides(c, names);
        }
    }

    private static void insides(Class<?> c, TreeSet<String> names) {
        int fields = 0;
        for (Field f : c.getDeclaredFields()) {
            boolean isStatic = Modifier.isStatic(f.getModifiers());
            fields += isStatic ? 0 : 1;
            due.is(f + ": static ones are final", isStatic && !Modifier.isFinal(f.getModifiers()), false);
        }
        due.is(c + " has twenty fields at most", fields <= 20, true);
        for (Method m : c.getDeclaredMethods()) {
            due.is(m + " takes seven parameters at most", m.getParameterCount() <= 7, true);
            due.is(m + " bears no name of the face", c != LostBuyer.class && names.contains(m.getName())
                    || Modifier.isPrivate(m.getModifiers()) && names.contains(m.getName()), false);
        }
        if (c != LostBuyer.class) {
            due.is(c + " is static", Modifier.isStatic(c.getModifiers()), true);
            due.is(c + " is not for all", Modifier.isPublic(c.getModifiers())
                    || Modifier.isProtected(c.getModifiers()), false);
        }
    }

    private static void source() throws Exception {
        String source = Files.readString(Path.of("src/main/java/LostBuyer.java"));
        String bare = source.replaceAll("(?s)/\\*.*?\\*/", "").replaceAll("//.*", "")
                .replaceAll("\"[^\"]*\"", "\"\"").replaceAll("'.'", "' '");
        for (String word : new String[] {"throw", "throws", "try", "catch", "finally", "synchronized", "assert", "->",
            "::", "Exact\\b", "\\bpackage\\b", "\\bSystem\\.(?!arraycopy)", "\\bequals\\b", "\\bhashCode\\b",
            "\\btoString\\b", "\\bObject\\b", "\\bfor \\(;;", "while \\(true", "\"\" \\+", "\\+ \"\""}) {
            String what = word.matches("[a-z]+") ? "\\b" + word + "\\b" : word;
            due.is("source has " + word, Pattern.compile(what).matcher(bare).find(), false);
        }
        Matcher imports = Pattern.compile("(?m)^import (.*);").matcher(bare);
        while (imports.find()) {
            due.is("import " + imports.group(1), List.of("java.util.Arrays", "java.util.ArrayList", "java.util.List")
                    .contains(imports.group(1)), true);
        }
        due.is("signs of the source are 1 to 127", source.chars().allMatch(c -> c > 0 && c < 128), true);
        int from = 0;
        String[] lines = source.split("\n");
        for (int i = 0; i < lines.length; i++) {
            if (lines[i].matches("( {4}| {8})\\S.*\\) \\{")) {
                from = i;
            }
            if (lines[i].matches("( {4}| {8})\\}")) {
                due.is("lines of the method at " + (from + 1), i - from <= 60, true);
            }
        }
    }

    public static void main(String[] args) throws Exception {
        face();
        source();
        due.end();
    }
}
