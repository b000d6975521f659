import java.lang.reflect.Method;
import java.lang.reflect.Modifier;
import java.nio.file.Files;
import java.nio.file.Path;
import java.util.Arrays;
import java.util.Set;
import java.util.TreeSet;
import java.util.regex.Matcher;
import java.util.regex.Pattern;

/** README.md's example and tables, held against the class. */
public final class ReadmeTest {
    private static final Due D = new Due();
    private static final Pattern EXAMPLE = Pattern.compile("(?m)^paper\\.(\\w+)\\((.*?)\\); *// (-?\\d+):");
    private static final Pattern CONSTANT = Pattern.compile("(?m)^\\| `([A-Z]+)` \\| (-?\\d+) \\|");
    private static final Pattern CALL = Pattern.compile("(?m)^\\| `(\\w+)\\((.*?)\\)` \\|");

    public static void main(String[] args) throws Exception {
        String readme = Files.readString(Path.of("README.md"));
        example(readme);
        constants(readme);
        calls(readme);
        D.end();
    }

    private static String[] parts(String list) {
        return list.isBlank() ? new String[0] : list.split(", *");
    }

    private static void example(String readme) throws Exception {
        StoryColumns paper = new StoryColumns();
        int rows = 0;
        for (Matcher row = EXAMPLE.matcher(readme); row.find(); rows++) {
            Object[] numbers = Arrays.stream(parts(row.group(2))).map(Integer::valueOf).toArray();
            Class<?>[] types = new Class<?>[numbers.length];
            Arrays.fill(types, int.class);
            Method call = StoryColumns.class.getMethod(row.group(1), types);
            D.due("README " + row.group(), (Integer) call.invoke(paper, numbers), Integer.parseInt(row.group(3)));
        }
        // A row that is not understood must not pass unseen.
        int written = readme.split("\npaper\\.", -1).length - 1;
        D.due("rows of README's example that were tried", rows, written);
        D.due("README has an example", written > 0 ? 1 : 0, 1);
    }

    private static void constants(String readme) throws Exception {
        int seen = 0;
        for (Matcher row = CONSTANT.matcher(readme); row.find(); seen++) {
            D.due("README " + row.group(), StoryColumns.class.getField(row.group(1)).getInt(null),
                Integer.parseInt(row.group(2)));
        }
        D.due("constants in README", seen, StoryColumns.class.getFields().length);
    }

    private static void calls(String readme) {
        Set<String> told = new TreeSet<>();
        for (Matcher row = CALL.matcher(readme); row.find();) {
            told.add(row.group(1) + " " + parts(row.group(2)).length);
        }
        Set<String> there = new TreeSet<>();
        for (Method method : StoryColumns.class.getDeclaredMethods()) {
            if (Modifier.isPublic(method.getModifiers())) {
                there.add(method.getName() + " " + method.getParameterCount());
            }
        }
        D.due("calls in README " + told + " of the class " + there, told.equals(there) ? 1 : 0, 1);
    }
}
