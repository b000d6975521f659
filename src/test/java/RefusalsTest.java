import java.util.Arrays;
import java.util.List;
import java.util.Map;
import java.util.Set;
import java.util.TreeMap;
import java.util.TreeSet;

/**
 * Refusals change nothing: two papers get the same calls, one of them a refused call in between, and
 * all that later calls show must be alike. Asking calls are tried in the same way. It also counts which
 * refusals each call gave: they must be those of the document, and no others.
 */
public final class RefusalsTest {
    private static final Due D = new Due();
    /** A paper is used for 512 calls at most; the longest state has fewer than 100. */
    private static final int ASKED_OF_ONE = 400;

    private static final Map<String, String> NAMED = Map.ofEntries(
        Map.entry("block", "[OUTSIDE, STATE, FULL]"), Map.entry("words", "[UNKNOWN, OUTSIDE, STATE]"),
        Map.entry("line", "[OUTSIDE, FULL]"), Map.entry("back", "[STATE]"), Map.entry("erase", "[STATE]"),
        Map.entry("ofBlock", "[UNKNOWN, OUTSIDE]"), Map.entry("ofLine", "[UNKNOWN, OUTSIDE]"),
        Map.entry("at", "[OUTSIDE]"), Map.entry("reach", "[UNKNOWN, OUTSIDE]"),
        Map.entry("under", "[UNKNOWN, STATE]"), Map.entry("story", "[UNKNOWN]"),
        Map.entry("takenBy", "[UNKNOWN, STATE]"), Map.entry("ofStory", "[UNKNOWN, OUTSIDE]"),
        Map.entry("text", "[UNKNOWN, OUTSIDE]"), Map.entry("mark", "[UNKNOWN, OUTSIDE, STATE]"),
        Map.entry("unmark", "[UNKNOWN, OUTSIDE]"), Map.entry("ofMark", "[UNKNOWN, OUTSIDE]"),
        Map.entry("ofArticle", "[UNKNOWN, OUTSIDE]"), Map.entry("read", "[UNKNOWN, OUTSIDE]"),
        Map.entry("many", "[OUTSIDE]"));

    private static final Set<String> ASKING = Set.of("ofBlock", "ofLine", "at", "reach", "under", "story", "takenBy",
        "ofStory", "text", "ofMark", "ofArticle", "read", "many");

    private static final String EMPTY = "";
    private static final String SMALL = """
        block 0 0 0 1 0 0; block 0 1 0 0 1 9; block 0 2 1 1 1 9; words 1 7; mark 0 1 2 3; mark 1 0 3 4; line 0 1 9 0 0
        """;
    /** Under, joined and left over; linked, broken and a ring; lines that part and lines that do not. */
    private static final String BUSY = """
        block 0 0 0 1 0 0; block 0 1 0 0 1 9; block 0 1 1 1 1 9; block 0 1 2 2 5 12; block 0 1 3 3 12 20; block 0 2 0 0 10 12
        block 1 0 0 3 0 1; block 1 1 0 1 2 9; block 1 1 2 3 2 9; block 1 1 4 5 2 9; block 1 2 6 7 0 0; block 1 1 7 7 20 29
        block 2 0 0 0 0 0; block 2 1 0 0 1 9; block 3 0 4 4 0 0; block 3 1 4 4 1 9; block 3 1 0 0 1 9
        line 0 0 3 0 3; line 0 1 20 0 7; line 1 0 4 2 9; line 2 1 5 3 7
        words 1 10; words 3 99; words 7 20; mark 4 0 1 1; mark 6 1 0 1; mark 13 0 3 2; mark 14 1 2 2; mark 15 0 2 3
        mark 12 1 3 3; mark 11 0 3 9; mark 16 1 1 8; mark 9 0 1 7; mark 9 1 1 7
        """;
    private static final String FULL = full();

    private static final Runs.Call[] TRIED = row("""
        block MIN|-1|4|MAX 1 7 7 29 29; block 3 MIN|-1|3|MAX 7 7 29 29
        block 3 1 MIN|-1|8|MAX 7 29 29; block 3 1 7 MIN|-1|6|8|MAX 29 29
        block 3 1 7 7 MIN|-1|30|MAX 29; block 3 1 7 7 29 MIN|-1|28|30|MAX; block 0 3 0 8 0 30; block 4 1 0 0 0 0
        block 0 0..2 0 0 0 0; block 0 1 0 7 0 29; block 1 0 0 7 0 29; block 3 1 7 7 29 29; block 0 1 0 0 0 30
        words MIN|-1|0|1|2|17|24|MAX MIN|-1|0|100|MAX; words 0|2|MIN|17|24|MAX 1|99
        line MIN|-1|4|MAX 0..1 1 0 0; line 0 MIN|-1|2|MAX 1 0 0; line 0 0..1 MIN|-1|0|30|MAX 0 0; line 0 0 8 0 0
        line 0 0..1 1 MIN|-1|30|MAX 0; line 0 0..1 1 0 MIN|-1|30|MAX; line 0 1 1 0 8; line 0 0..1 1 3 2; line 0 0..1 1 0 0
        back; erase
        mark MIN|-1|3|17|24|MAX 0..2 0|4 0|100; mark 0|2|5 0..1 0 0; mark 0..2 MIN|-1|2|MAX 0 0
        mark 0..2 0..1 MIN|-1|4|MAX 0; mark 0..2 0..1 0 MIN|-1|100|MAX
        unmark MIN|-1|3|17|24|MAX 0..2; unmark 0..2 MIN|-1|2|MAX
        ofBlock MIN|-1|0|1|2|17|24|MAX MIN|-1|0|6|7|MAX; ofLine MIN|-1|0|1|4|12|MAX MIN|-1|0|4|5|MAX
        at MIN|-1|0|4|MAX 0 0; at 0 MIN|-1|7|8|MAX 0; at 0 0 MIN|-1|29|30|MAX
        reach MIN|-1|0|1|2|17|24|MAX MIN|-1|0|7|8|MAX; under MIN|-1|0|1|2|17|24|MAX; story MIN|-1|0|1|2|17|24|MAX
        takenBy MIN|-1|0|1|2|17|24|MAX; ofStory MIN|-1|0|1|24|MAX MIN|-1|0..9|MAX; text MIN|-1|0|1|24|MAX MIN|-1|0|23|24|MAX
        ofMark MIN|-1|0|1|2|17|24|MAX -1|0|1|2 -1|0|1|2; ofArticle MIN|-1|0|1|24|MAX MIN|-1|0|6|7|MAX
        read MIN|-1|0|1|24|MAX MIN|-1|0|23|24|MAX; many MIN|-1|0|4|11|12|MAX
        """);

    private static final String[] THEN = {"", "block 3 1 7 7 29 29", "line 3 1 1 0 0", "back", "erase", "clear", "turn",
        "words 1 5", "mark 1 0 3 9; mark 0 1 0 1", "unmark 1 0; unmark 0 1", "back; block 3 1 7 7 29 29; erase; line 0 0 1 0 29",
        "clear; block 0 1 0 0 0 0; block 0 1 1 1 0 0; line 0 0 1 0 29"};

    private static final Runs.Call[] ASKED = row("""
        many 0..11; under 0..23; story 0..23; takenBy 0..23; ofBlock 0..23 0..6; ofLine 0..11 0..4; ofMark 0..23 0..1 0..1
        reach 0..23 0..7; ofStory 0..23 0..8; text 0..23 0..6; ofArticle 0..23 0..6; read 0..23 0..6
        """);
    private static final Runs.Call[] CELLS = row("at 0..3 0..7 0..29");

    private static final Map<String, Set<Integer>> SEEN = new TreeMap<>();

    public static void main(String[] args) {
        statesStand();
        for (String state : List.of(EMPTY, SMALL, BUSY, FULL)) {
            tryAll(state);
            // What is derived is then built already when the refused call comes.
            tryAll(state + "; many 4");
        }
        seenAsNamed();
        D.end();
    }

    /** Else the runs would begin with less than they tell. */
    private static void statesStand() {
        for (String state : List.of(EMPTY, SMALL, BUSY, FULL)) {
            Runs.run(D, "a state to begin with", state);
        }
        Runs.run(D, "the full state", FULL + "many 0 = 24; many 1 = 12");
        Runs.run(D, "the busy state", BUSY + "many * = 17 4 4 11 7 2 3 5 1 2 2 1");
    }

    private static Runs.Call[] row(String rows) {
        return Runs.calls(rows).toArray(new Runs.Call[0]);
    }

    private static String full() {
        StringBuilder rows = new StringBuilder();
        for (int k = 0; k < 24; k++) {
            int column = k / 4;
            rows.append("block ").append(k % 4).append(k < 4 ? " 0 " : k < 8 ? " 2 " : " 1 ").append(column % 4 * 2).append(' ');
            rows.append(column % 4 * 2 + 1).append(' ').append(column).append(' ').append(column).append('\n');
            if (k >= 8) {
                rows.append("mark ").append(k).append(" 0 ").append((k + 1) % 4).append(' ').append(k).append('\n');
                rows.append("mark ").append(k).append(" 1 ").append((k + 3) % 4).append(' ').append(k - 1).append('\n');
            }
        }
        for (int k = 0; k < 12; k++) {
            rows.append("line ").append(k % 4).append(' ').append(k % 2).append(" 7 2 7\n");
        }
        return rows.toString();
    }

    private static void tryAll(String state) {
        Runs.Call[] made = row(state);
        compare(made, row(""), CELLS);
        for (String then : THEN) {
            compare(made, row(then), ASKED);
        }
    }

    /** With and without each call that is tried and that is refused or only asks. */
    private static void compare(Runs.Call[] made, Runs.Call[] later, Runs.Call[] asked) {
        int[] plain = shown(made, null, later, asked);
        for (Runs.Call tried : TRIED) {
            if (!isRefused(made, tried) && !ASKING.contains(tried.name())) {
                continue;
            }
            int[] with = shown(made, tried, later, asked);
            int i = Arrays.mismatch(plain, with);
            if (i < 0) {
                D.due("all alike", 0, 0);
            } else {
                Runs.Call call = i < later.length ? later[i] : asked[i - later.length];
                D.due("after " + tried + " on a paper of " + made.length + " calls: " + call, with[i], plain[i]);
            }
        }
    }

    private static boolean isRefused(Runs.Call[] made, Runs.Call tried) {
        StoryColumns paper = paper(made);
        int got = tried.on(paper);
        if (got <= StoryColumns.UNKNOWN && got >= StoryColumns.FULL) {
            SEEN.computeIfAbsent(tried.name(), name -> new TreeSet<>()).add(got);
            return true;
        }
        return false;
    }

    private static StoryColumns paper(Runs.Call[] made) {
        StoryColumns paper = new StoryColumns();
        for (Runs.Call call : made) {
            call.on(paper);
        }
        return paper;
    }

    /** What the later calls and then the asked ones answer; new papers go on where one has been asked enough. */
    private static int[] shown(Runs.Call[] made, Runs.Call tried, Runs.Call[] later, Runs.Call[] asked) {
        int[] all = new int[later.length + asked.length];
        StoryColumns paper = null;
        for (int i = 0; i < asked.length; i++) {
            if (i % ASKED_OF_ONE == 0) {
                paper = paper(made);
                if (tried != null) {
                    tried.on(paper);
                }
                for (int j = 0; j < later.length; j++) {
                    all[j] = later[j].on(paper);
                }
            }
            all[later.length + i] = asked[i].on(paper);
        }
        return all;
    }

    private static void seenAsNamed() {
        D.due("calls that refuse", SEEN.keySet().equals(NAMED.keySet()) ? 1 : 0, 1);
        SEEN.forEach((name, codes) -> {
            StringBuilder told = new StringBuilder();
            for (int code = StoryColumns.UNKNOWN; code >= StoryColumns.FULL; code--) {
                if (codes.contains(code)) {
                    told.append(told.isEmpty() ? "" : ", ").append(List.of("UNKNOWN", "OUTSIDE", "STATE", "FULL").get(-1 - code));
                }
            }
            String got = "[" + told + "]";
            D.due(name + " refused with " + got + ", named are " + NAMED.get(name), got.equals(NAMED.get(name)) ? 1 : 0, 1);
        });
    }
}
