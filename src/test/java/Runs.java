import java.util.ArrayList;
import java.util.Arrays;
import java.util.List;

/**
 * Runs of calls on a new object, written as text. A row is a call's name and its numbers, and behind
 * '=' what is due; ';' or a new line ends it. A row without '=' must only not be refused.
 *
 * A number may be several, each tried by itself: {@code 0|7} or {@code 0..7}. One number may be
 * {@code *}: it is 0, 1, 2, .. for the answers behind '=' one after another. MIN and MAX are the least
 * and the greatest int; '-' is NONE.
 */
final class Runs {
    private static final int MOST_CALLS = 512;

    private final Due due;
    private final String sentence;
    private final StoryColumns paper = new StoryColumns();
    private int calls;

    private Runs(Due due, String sentence) {
        this.due = due;
        this.sentence = sentence;
    }

    static void run(Due due, String sentence, String rows) {
        Runs run = new Runs(due, sentence);
        for (String row : split(rows)) {
            run.row(row);
        }
        due.due(sentence + ": the run has at most 512 calls", run.calls <= MOST_CALLS ? 1 : 0, 1);
    }

    private static String[] split(String rows) {
        return Arrays.stream(rows.split("[;\n]")).map(String::trim).filter(row -> !row.isEmpty()).toArray(String[]::new);
    }

    /** A call by its name and numbers. */
    record Call(String name, int[] v) {
        int on(StoryColumns paper) {
            return call(paper, name, v);
        }

        @Override
        public String toString() {
            return name + Arrays.toString(v);
        }
    }

    /** The calls of all rows, one for each of a row's numbers; what is due is passed over. */
    static List<Call> calls(String rows) {
        List<Call> all = new ArrayList<>();
        for (String row : split(rows)) {
            spread(row.split("=")[0].trim().split(" +"), all);
        }
        return all;
    }

    private void row(String row) {
        String[] sides = row.split("=");
        String[] words = sides[0].trim().split(" +");
        String[] wanted = sides.length > 1 ? sides[1].trim().split(" +") : new String[] {null};
        int star = Arrays.asList(words).indexOf("*");
        if (star < 0 && wanted.length != 1) {
            throw new IllegalArgumentException("one answer is due: " + row);
        }
        for (int i = 0; i < wanted.length; i++) {
            String[] one = words.clone();
            if (star >= 0) {
                one[star] = Integer.toString(i);
            }
            List<Call> all = new ArrayList<>();
            spread(one, all);
            for (Call each : all) {
                ask(each, wanted[i]);
            }
        }
    }

    /** The call with each of its numbers, where one of them is several. */
    private static void spread(String[] words, List<Call> all) {
        for (int i = 1; i < words.length; i++) {
            String[] several = several(words[i]);
            if (several.length > 1) {
                for (String each : several) {
                    String[] one = words.clone();
                    one[i] = each;
                    spread(one, all);
                }
                return;
            }
        }
        all.add(plain(words));
    }

    private static Call plain(String[] words) {
        int[] v = new int[words.length - 1];
        for (int i = 0; i < v.length; i++) {
            v[i] = number(words[i + 1]);
        }
        return new Call(words[0], v);
    }

    private static String[] several(String word) {
        List<String> all = new ArrayList<>();
        for (String part : word.split("\\|")) {
            String[] ends = part.split("\\.\\.");
            if (ends.length < 2) {
                all.add(part);
                continue;
            }
            for (int each = Integer.parseInt(ends[0]); each <= Integer.parseInt(ends[1]); each++) {
                all.add(Integer.toString(each));
            }
        }
        return all.toArray(new String[0]);
    }

    private void ask(Call call, String wanted) {
        calls++;
        int got = call.on(paper);
        String told = sentence + ": call " + calls + ", " + call;
        if (wanted == null) {
            due.due(told + " is not refused", got >= 0 ? 1 : 0, 1);
        } else {
            due.due(told, got, number(wanted));
        }
    }

    private static int number(String word) {
        return switch (word) {
            case "MIN" -> Integer.MIN_VALUE;
            case "MAX" -> Integer.MAX_VALUE;
            case "UNKNOWN" -> StoryColumns.UNKNOWN;
            case "OUTSIDE" -> StoryColumns.OUTSIDE;
            case "STATE" -> StoryColumns.STATE;
            case "FULL" -> StoryColumns.FULL;
            case "-", "NONE" -> StoryColumns.NONE;
            default -> Integer.parseInt(word);
        };
    }

    private static int call(StoryColumns x, String name, int... v) {
        return switch (name) {
            case "block" -> x.block(v[0], v[1], v[2], v[3], v[4], v[5]);
            case "words" -> x.words(v[0], v[1]);
            case "line" -> x.line(v[0], v[1], v[2], v[3], v[4]);
            case "back" -> x.back();
            case "erase" -> x.erase();
            case "clear" -> x.clear();
            case "turn" -> x.turn();
            case "ofBlock" -> x.ofBlock(v[0], v[1]);
            case "ofLine" -> x.ofLine(v[0], v[1]);
            case "at" -> x.at(v[0], v[1], v[2]);
            case "reach" -> x.reach(v[0], v[1]);
            case "under" -> x.under(v[0]);
            case "story" -> x.story(v[0]);
            case "takenBy" -> x.takenBy(v[0]);
            case "ofStory" -> x.ofStory(v[0], v[1]);
            case "text" -> x.text(v[0], v[1]);
            case "mark" -> x.mark(v[0], v[1], v[2], v[3]);
            case "unmark" -> x.unmark(v[0], v[1]);
            case "ofMark" -> x.ofMark(v[0], v[1], v[2]);
            case "ofArticle" -> x.ofArticle(v[0], v[1]);
            case "read" -> x.read(v[0], v[1]);
            case "many" -> x.many(v[0]);
            default -> throw new IllegalArgumentException("no such call: " + name);
        };
    }
}
