import java.lang.reflect.Constructor;
import java.lang.reflect.Field;
import java.lang.reflect.Method;
import java.lang.reflect.Modifier;
import java.nio.file.Files;
import java.nio.file.Path;
import java.util.ArrayList;
import java.util.Arrays;
import java.util.HashSet;
import java.util.List;
import java.util.Set;
import java.util.regex.Pattern;

/** The public face of the document, and the rules of LANGUAGE.md that a program can look up. */
public final class FaceTest {
    private static final Due D = new Due();
    private static final String[] METHODS = {"block 6", "words 2", "line 5", "back 0", "erase 0", "clear 0", "turn 0",
        "ofBlock 2", "ofLine 2", "at 3", "reach 2", "under 1", "story 1", "takenBy 1", "ofStory 2", "text 2", "mark 4",
        "unmark 2", "ofMark 3", "ofArticle 2", "read 2", "many 1"};

    public static void main(String[] args) throws Exception {
        constants();
        visible();
        nested();
        sourceWords();
        D.end();
    }

    private static void constants() {
        D.due("UNKNOWN", StoryColumns.UNKNOWN, -1);
        D.due("OUTSIDE", StoryColumns.OUTSIDE, -2);
        D.due("STATE", StoryColumns.STATE, -3);
        D.due("FULL", StoryColumns.FULL, -4);
        D.due("NONE", StoryColumns.NONE, -9);
    }

    private static void yes(String what, boolean holds) {
        D.due(what, holds ? 1 : 0, 1);
    }

    private static void visible() {
        Class<?> c = StoryColumns.class;
        yes("public final", Modifier.isPublic(c.getModifiers()) && Modifier.isFinal(c.getModifiers()));
        Set<String> methods = new HashSet<>();
        for (Method method : c.getDeclaredMethods()) {
            if (Modifier.isPrivate(method.getModifiers())) {
                continue;
            }
            methods.add(method.getName() + " " + method.getParameterCount());
            yes(method + " answers int", method.getReturnType() == int.class && !Modifier.isStatic(method.getModifiers()));
        }
        yes("methods " + methods, methods.equals(new HashSet<>(Arrays.asList(METHODS))));
        Constructor<?>[] made = c.getDeclaredConstructors();
        yes("constructor", made.length == 1 && made[0].getParameterCount() == 0
            && Modifier.isPublic(made[0].getModifiers()));
        Set<String> fields = new HashSet<>();
        for (Field field : c.getDeclaredFields()) {
            if (!Modifier.isPrivate(field.getModifiers())) {
                fields.add(field.getName());
            }
        }
        yes("fields " + fields, fields.equals(Set.of("UNKNOWN", "OUTSIDE", "STATE", "FULL", "NONE")));
    }

    private static void nested() {
        Set<String> face = new HashSet<>();
        for (String method : METHODS) {
            face.add(method.split(" ")[0]);
        }
        for (Class<?> c : StoryColumns.class.getDeclaredClasses()) {
            int how = c.getModifiers();
            yes(c + " static", Modifier.isStatic(how) && !Modifier.isPublic(how) && !Modifier.isProtected(how));
            List<Method> all = new ArrayList<>(Arrays.asList(c.getDeclaredMethods()));
            for (Method method : all) {
                yes(method + " has a name of its own", !face.contains(method.getName()));
                yes(method + " takes at most seven", method.getParameterCount() <= 7);
            }
        }
        yes("at most twelve classes", StoryColumns.class.getDeclaredClasses().length < 12);
    }

    private static void sourceWords() throws Exception {
        String source = Files.readString(Path.of("src/main/java/StoryColumns.java"));
        String code = source.replaceAll("(?s)/\\*.*?\\*/", "").replaceAll("//[^\n]*", "");
        String[] ruledOut = {"throw", "throws", "try", "catch", "synchronized", "assert", "import", "package", "System",
            "Object", "->", "::", "protected"};
        for (String word : ruledOut) {
            String edge = Character.isLetter(word.charAt(0)) ? "\\b" : "";
            yes("without " + word, !Pattern.compile(edge + Pattern.quote(word) + edge).matcher(code).find());
        }
    }
}
