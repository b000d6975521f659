import java.util.Random;

/** Runs of some 500 calls, the same each time, against Model. */
public final class RandomRunsTest {
    private static final Due D = new Due();
    private static final int RUNS = 1000, CALLS = 511;
    private static int joinedSeen, ringsSeen, brokenSeen, longSeen;

    public static void main(String[] args) {
        for (int run = 0; run < RUNS; run++) {
            new RandomRunsTest(run).run();
        }
        System.out.println("seen at the ends of runs: " + joinedSeen + " joined, " + ringsSeen + " rings, "
            + brokenSeen + " broken, " + longSeen + " articles of three stories or more");
        // Runs in which these never happened would prove little.
        D.due("runs saw joined texts", joinedSeen > 200 ? 1 : 0, 1);
        D.due("runs saw rings", ringsSeen > 40 ? 1 : 0, 1);
        D.due("runs saw broken stories", brokenSeen > 500 ? 1 : 0, 1);
        D.due("runs saw articles of three stories", longSeen > 50 ? 1 : 0, 1);
        D.end();
    }

    private int calls;
    private final int run;
    private final Random random;
    private final int pages;
    private final int wordsUsed;
    private final int tallest;
    private final StoryColumns x = new StoryColumns();
    private final Model m = new Model();

    private RandomRunsTest(int run) {
        this.run = run;
        random = new Random(run * 7919L + 17);
        pages = 1 + random.nextInt(4);
        wordsUsed = 1 + random.nextInt(6);
        tallest = 1 + random.nextInt(15);
    }

    /** Mostly 0 .. bound - 1, now and then a little or far outside. */
    private int number(int bound) {
        int odd = random.nextInt(60);
        if (odd == 0) {
            return bound;
        }
        if (odd == 1) {
            return -1;
        }
        if (odd == 2) {
            return random.nextInt();
        }
        return bound < 1 ? 0 : random.nextInt(bound);
    }

    private void run() {
        int building = random.nextInt(200);
        while (calls < CALLS) {
            if (random.nextInt(100) < (calls < building ? 80 : 15)) {
                change();
            } else {
                ask();
            }
        }
        joinedSeen += m.many(5);
        ringsSeen += m.many(8);
        brokenSeen += m.many(9);
        for (int r = 0; r < m.many(7); r++) {
            longSeen += m.ofArticle(r, 1) > 2 ? 1 : 0;
        }
    }

    private void due(String call, int got, int want) {
        calls++;
        D.due("run " + run + ": " + call, got, want);
    }

    private void change() {
        int k = number(m.size());
        switch (random.nextInt(24)) {
            case 0, 1, 2, 3 -> block();
            case 4, 5, 6, 7 -> blockBeside(k);
            case 8 -> line();
            case 9 -> goBack();
            case 10 -> turnOrClear();
            case 11 -> line();
            case 12 -> {
                int v = 1 + number(99);
                due("words", x.words(k, v), m.words(k, v));
            }
            case 13 -> {
                int which = number(2);
                due("unmark", x.unmark(k, which), m.unmark(k, which));
            }
            case 14, 15, 16 -> mark(k, number(2), number(pages));
            default -> markBoth(k, number(m.size()));
        }
    }

    private int word() {
        return random.nextInt(40) == 0 ? number(100) : random.nextInt(wordsUsed);
    }

    private void mark(int k, int which, int page) {
        int word = word();
        due("mark", x.mark(k, which, page, word), m.mark(k, which, page, word));
    }

    /** Marks that fit one another by chance alone are too few for chains and rings. */
    private void markBoth(int k, int to) {
        int word = word();
        int page = m.ofBlock(k, 0);
        int toPage = m.ofBlock(to, 0);
        due("mark onward", x.mark(k, 0, toPage, word), m.mark(k, 0, toPage, word));
        due("mark from", x.mark(to, 1, page, word), m.mark(to, 1, page, word));
    }

    private void goBack() {
        switch (random.nextInt(4)) {
            case 0 -> due("back", x.back(), m.back());
            case 1 -> due("erase", x.erase(), m.erase());
            default -> block();
        }
    }

    private void turnOrClear() {
        if (random.nextInt(40) == 0) {
            due("clear", x.clear(), m.clear());
        } else {
            due("turn", x.turn(), m.turn());
        }
    }

    private void block() {
        int page = number(pages);
        int kind = random.nextInt(3) == 0 ? 2 * random.nextInt(2) : random.nextInt(40) == 0 ? number(3) : 1;
        int a = number(8);
        int b = Math.min(7, a) + (random.nextInt(4) == 0 ? random.nextInt(3) : 0);
        int t = random.nextInt(3) == 0 ? number(4) : number(30);
        int u = t + random.nextInt(kind == 0 ? 2 : tallest);
        due("block", x.block(page, kind, a, b, t, u), m.block(page, kind, a, b, t, u));
    }

    /** Texts that stand beside one another by chance alone are too few for chains of joined ones. */
    private void blockBeside(int k) {
        int page = m.ofBlock(k, 0);
        int a = m.ofBlock(k, 3) + 1;
        int t = Math.max(0, m.ofBlock(k, 4) + random.nextInt(7) - 3);
        int u = Math.min(29, t + random.nextInt(tallest));
        due("block", x.block(page, 1, a, a, t, u), m.block(page, 1, a, a, t, u));
    }

    private void line() {
        int page = number(pages);
        int how = number(2);
        int at = number(how == 0 ? 8 : 30);
        int from = number(how == 0 ? 30 : 8);
        int until = from + random.nextInt(4);
        due("line", x.line(page, how, at, from, until), m.line(page, how, at, from, until));
    }

    private void ask() {
        int k = number(m.size());
        int i = random.nextInt(3) == 0 ? number(24) : number(6);
        int what = number(13);
        switch (random.nextInt(14)) {
            case 0 -> due("ofBlock", x.ofBlock(k, what), m.ofBlock(k, what));
            case 1 -> due("ofLine", x.ofLine(i, what), m.ofLine(i, what));
            case 2 -> {
                int page = number(pages);
                int column = number(8);
                int row = number(30);
                due("at", x.at(page, column, row), m.at(page, column, row));
            }
            case 3 -> {
                int column = number(8);
                due("reach", x.reach(k, column), m.reach(k, column));
            }
            case 4 -> due("under", x.under(k), m.under(k));
            case 5 -> due("story", x.story(k), m.story(k));
            case 6 -> due("takenBy", x.takenBy(k), m.takenBy(k));
            case 7, 8 -> {
                int s = number(m.many(4));
                due("ofStory " + what, x.ofStory(s, what), m.ofStory(s, what));
            }
            case 9 -> {
                int s = number(m.many(4));
                due("text", x.text(s, i), m.text(s, i));
            }
            case 10 -> {
                int which = number(2);
                int part = number(2);
                due("ofMark", x.ofMark(k, which, part), m.ofMark(k, which, part));
            }
            case 11 -> {
                int r = number(m.many(7));
                due("ofArticle " + what, x.ofArticle(r, what), m.ofArticle(r, what));
            }
            case 12 -> {
                int r = number(m.many(7));
                due("read", x.read(r, i), m.read(r, i));
            }
            default -> due("many " + what, x.many(what), m.many(what));
        }
    }
}
