import java.io.IOException;
import java.lang.reflect.Field;
import java.lang.reflect.Method;
import java.lang.reflect.Modifier;
import java.nio.file.Files;
import java.nio.file.Path;
import java.util.ArrayList;
import java.util.List;
import java.util.TreeSet;

/** The public face, and those rules of LANGUAGE.md that the program's text and its classes show. Runs in the project's folder. */
public final class LanguageTest {
    private static final String FACE = "feed/5 end/1 hill/0 rule/0 force/1 stone/2 seeker/2 thing/1 day/0 hide/1 rest/1 figure/1 "
        + "forget/1 undo/0 ahead/3 today/2 first/1 hiding/2 order/2 mean/2 gone/1 hint/1 worth/1 wanders/1 shows/1 name/2 "
        + "ruled/1 ask/1 forged/0 seed/1 years/4 count/1 image/1 back/1";
    private static final String[] FORBIDDEN = {"throw", "throws", "try", "catch", "finally", "synchronized", "assert",
        "package", "protected", "native", "volatile", "Exception", "Error", "Object", "System\\.(?!arraycopy)\\w+", "Random", "Thread",
        "Runtime", "Class", "hashCode"};
    private static final String IMPORTS = "import java\\.util\\.(ArrayList|Arrays|Iterator|List);";

    private LanguageTest() {
    }

    public static void main(String[] args) throws IOException {
        face();
        classes();
        List<String> lines = bare(Files.readAllLines(Path.of("src/main/java/TinWall.java")));
        words(lines);
        methods(lines);
        Check.done();
    }

    private static void face() {
        TreeSet<String> due = new TreeSet<>(List.of(FACE.split(" ")));
        TreeSet<String> is = new TreeSet<>();
        for (Method method : TinWall.class.getDeclaredMethods()) {
            if (Modifier.isPublic(method.getModifiers())) {
                boolean ints = method.getReturnType() == int.class && !Modifier.isStatic(method.getModifiers());
                for (Class<?> type : method.getParameterTypes()) {
                    ints &= type == int.class;
                }
                Check.is("ints alone: " + method, ints ? 1 : 0, 1);
                is.add(method.getName() + "/" + method.getParameterCount());
            } else {
                Check.is("private: " + method, Modifier.isPrivate(method.getModifiers()) ? 1 : 0, 1);
            }
        }
        Check.is("the face " + is, is.equals(due) ? 1 : 0, 1);
        for (Field field : TinWall.class.getDeclaredFields()) {
            boolean right = field.getName().equals("NONE") ? Modifier.isPublic(field.getModifiers()) : Modifier.isPrivate(field.getModifiers());
            Check.is("field " + field, right ? 1 : 0, 1);
        }
        Check.is("final", Modifier.isFinal(TinWall.class.getModifiers()) ? 1 : 0, 1);
        Check.is("constructors", TinWall.class.getConstructors().length, 1);
    }

    private static void classes() {
        TreeSet<String> face = new TreeSet<>();
        for (String method : FACE.split(" ")) {
            face.add(method.substring(0, method.indexOf('/')));
        }
        List<Class<?>> all = new ArrayList<>(List.of(TinWall.class.getDeclaredClasses()));
        Check.is("some twelve classes at most", all.size() < 12 ? 1 : 0, 1);
        all.add(TinWall.class);
        for (Class<?> one : all) {
            Check.is("static: " + one, one == TinWall.class || Modifier.isStatic(one.getModifiers()) ? 1 : 0, 1);
            int fields = 0;
            for (Field field : one.getDeclaredFields()) {
                boolean isStatic = Modifier.isStatic(field.getModifiers());
                fields += isStatic ? 0 : 1;
                Check.is("static is final: " + field, !isStatic || Modifier.isFinal(field.getModifiers()) ? 1 : 0, 1);
            }
            Check.is("twenty fields at most: " + one, fields <= 20 ? 1 : 0, 1);
            for (Method method : one.getDeclaredMethods()) {
                boolean ofFace = one == TinWall.class && Modifier.isPublic(method.getModifiers());
                Check.is("a name of its own: " + method, ofFace || !face.contains(method.getName()) ? 1 : 0, 1);
                Check.is("seven parameters at most: " + method, method.getParameterCount() <= 7 ? 1 : 0, 1);
            }
        }
    }

    /** The lines without comments, texts and signs. */
    private static List<String> bare(List<String> lines) {
        List<String> bare = new ArrayList<>();
        boolean comment = false;
        for (String line : lines) {
            String left = line.replaceAll("\"[^\"]*\"", "\"\"").replaceAll("'.'", "' '").replaceAll("//.*", "").replaceAll("/\\*.*?\\*/", "");
            if (left.contains("/*")) {
                comment = true;
            }
            bare.add(comment ? "" : left);
            if (left.contains("*/")) {
                comment = false;
            }
        }
        return bare;
    }

    private static void words(List<String> lines) {
        for (int i = 0; i < lines.size(); i++) {
            String line = lines.get(i);
            for (String word : FORBIDDEN) {
                Check.is("line " + (i + 1) + " has " + word, line.matches(".*\\b" + word + "\\b.*") ? 1 : 0, 0);
            }
            boolean endless = line.contains("while (true") || line.contains("for (;;") || line.matches(".*for \\(.*; *;.*");
            Check.is("line " + (i + 1) + " is a loop without an end", endless ? 1 : 0, 0);
            boolean imports = line.startsWith("import") && !line.matches(IMPORTS);
            Check.is("line " + (i + 1) + " imports what is not listed", imports ? 1 : 0, 0);
            boolean arrow = line.contains("->") && !line.matches(" *(case .*|default) -> .*");
            boolean lambda = arrow || line.contains("::");
            Check.is("line " + (i + 1) + " has a lambda", lambda ? 1 : 0, 0);
            Check.is("line " + (i + 1) + " has an Exact", line.contains("Exact") ? 1 : 0, 0);
            Check.is("line " + (i + 1) + " joins texts by +", line.contains("\" +") || line.contains("+ \"") ? 1 : 0, 0);
            Check.is("line " + (i + 1) + " is ASCII", line.chars().allMatch(c -> c < 128) ? 1 : 0, 1);
        }
    }

    private static void methods(List<String> lines) {
        int from = -1;
        int indent = 0;
        for (int i = 0; i < lines.size(); i++) {
            String line = lines.get(i);
            int spaces = line.length() - line.stripLeading().length();
            boolean begins = line.endsWith(") {") && (spaces == 4 || spaces == 8) && !line.strip().matches("(if|for|while|switch|}).*");
            if (from < 0 && begins) {
                from = i;
                indent = spaces;
            } else if (from >= 0 && line.strip().equals("}") && spaces == indent) {
                Check.is("line " + (from + 1) + ": some sixty lines at most", i - from <= 60 ? 1 : 0, 1);
                from = -1;
            }
        }
        Check.is("each method has its end", from, -1);
    }
}
