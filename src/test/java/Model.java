import java.util.ArrayList;
import java.util.Comparator;
import java.util.HashMap;
import java.util.HashSet;
import java.util.List;
import java.util.Map;
import java.util.Set;
import java.util.TreeMap;

/** The document written a second time, cell by cell and with the library, to be compared with. */
final class Model {
    static final int UNKNOWN = -1, OUTSIDE = -2, STATE = -3, FULL = -4, NONE = -9;

    private static final class Block {
        int number, page, kind, a, b, t, u, words = 1;
        int[] onward, from;

        boolean covers(int column, int row) {
            return column >= a && column <= b && row >= t && row <= u;
        }
    }

    private record Line(int page, int how, int at, int from, int until) {
        boolean upright(int itsPage, int x, int row) {
            return how == 0 && page == itsPage && at == x && row >= from && row <= until;
        }

        boolean flat(int itsPage, int y, int column) {
            return how == 1 && page == itsPage && at == y && column >= from && column <= until;
        }
    }

    private static final class Story {
        Block head;
        final List<Block> texts = new ArrayList<>();
        int number, joined;
        Story next, previous;
        boolean broken;
        int article;
    }

    private final List<Block> blocks = new ArrayList<>();
    private final List<Line> lines = new ArrayList<>();
    private final Map<Block, Block> over = new HashMap<>();
    private final Map<Block, Block> takers = new HashMap<>();
    private final Map<Block, Story> home = new HashMap<>();
    private final List<Story> stories = new ArrayList<>();
    private final List<List<Story>> articles = new ArrayList<>();
    private int rings;

    private static boolean in(int value, int low, int high) {
        return low <= value && value <= high;
    }

    private Block find(int k) {
        return in(k, 0, blocks.size() - 1) ? blocks.get(k) : null;
    }

    private static int number(Block block) {
        return block == null ? NONE : block.number;
    }

    private static int number(Story story) {
        return story == null ? NONE : story.number;
    }

    int size() {
        return blocks.size();
    }

    int block(int page, int kind, int a, int b, int t, int u) {
        if (!in(page, 0, 3) || !in(kind, 0, 2) || !in(a, 0, 7) || !in(b, a, 7) || !in(t, 0, 29) || !in(u, t, 29)) {
            return OUTSIDE;
        }
        for (int column = a; column <= b; column++) {
            for (int row = t; row <= u; row++) {
                if (at(page, column, row) != NONE) {
                    return STATE;
                }
            }
        }
        if (blocks.size() == 24) {
            return FULL;
        }
        Block block = new Block();
        block.number = blocks.size();
        block.page = page;
        block.kind = kind;
        block.a = a;
        block.b = b;
        block.t = t;
        block.u = u;
        blocks.add(block);
        return block.number;
    }

    int words(int k, int v) {
        Block block = find(k);
        if (block == null) {
            return UNKNOWN;
        }
        if (!in(v, 1, 99)) {
            return OUTSIDE;
        }
        if (block.kind != 1) {
            return STATE;
        }
        int before = block.words;
        block.words = v;
        return before;
    }

    int line(int page, int how, int at, int from, int until) {
        if (!in(page, 0, 3) || !in(how, 0, 1) || !in(at, 1, how == 0 ? 7 : 29)) {
            return OUTSIDE;
        }
        int high = how == 0 ? 29 : 7;
        if (!in(from, 0, high) || !in(until, from, high)) {
            return OUTSIDE;
        }
        if (lines.size() == 12) {
            return FULL;
        }
        lines.add(new Line(page, how, at, from, until));
        return lines.size() - 1;
    }

    int back() {
        if (blocks.isEmpty()) {
            return STATE;
        }
        blocks.remove(blocks.size() - 1);
        return blocks.size();
    }

    int erase() {
        if (lines.isEmpty()) {
            return STATE;
        }
        lines.remove(lines.size() - 1);
        return lines.size();
    }

    int clear() {
        int before = blocks.size();
        blocks.clear();
        lines.clear();
        return before;
    }

    int turn() {
        int others = 0;
        for (Block block : blocks) {
            int a = block.a;
            int b = block.b;
            block.a = 7 - b;
            block.b = 7 - a;
            others += a == block.a && b == block.b ? 0 : 1;
        }
        lines.replaceAll(l -> l.how == 0
            ? new Line(l.page, 0, 8 - l.at, l.from, l.until)
            : new Line(l.page, 1, l.at, 7 - l.until, 7 - l.from));
        return others;
    }

    int ofBlock(int k, int what) {
        Block x = find(k);
        if (x == null) {
            return UNKNOWN;
        }
        int[] all = {x.page, x.kind, x.a, x.b, x.t, x.u, x.kind == 1 ? x.words : NONE};
        return in(what, 0, 6) ? all[what] : OUTSIDE;
    }

    int ofLine(int k, int what) {
        if (!in(k, 0, lines.size() - 1)) {
            return UNKNOWN;
        }
        Line l = lines.get(k);
        int[] all = {l.page, l.how, l.at, l.from, l.until};
        return in(what, 0, 4) ? all[what] : OUTSIDE;
    }

    int at(int page, int column, int row) {
        if (!in(page, 0, 3) || !in(column, 0, 7) || !in(row, 0, 29)) {
            return OUTSIDE;
        }
        for (Block block : blocks) {
            if (block.page == page && block.covers(column, row)) {
                return block.number;
            }
        }
        return NONE;
    }

    /** Goes down cell by cell from a head until something stops it. */
    private boolean[][] reachOf(Block head) {
        boolean[][] cells = new boolean[8][30];
        for (int column = head.a; column <= head.b && head.u < 29; column++) {
            int x = column;
            if (column > head.a && lines.stream().anyMatch(l -> l.upright(head.page, x, head.u + 1))) {
                break;
            }
            for (int row = head.u + 1; row < 30; row++) {
                int y = row;
                Block here = find(at(head.page, column, row));
                boolean stopped = here != null && here.kind == 0;
                if (stopped || lines.stream().anyMatch(l -> l.flat(head.page, y, x))) {
                    break;
                }
                cells[column][row] = true;
            }
        }
        return cells;
    }

    private boolean takes(Block y, Block x) {
        if (y.kind != 1 || !home.containsKey(y) || y.page != x.page || y.b != x.a - 1) {
            return false;
        }
        boolean common = false;
        for (int row = 0; row < 30; row++) {
            int r = row;
            if (y.covers(y.b, row) && x.covers(x.a, row)) {
                common = true;
                if (lines.stream().anyMatch(l -> l.upright(x.page, x.a, r))) {
                    return false;
                }
            }
        }
        return common;
    }

    private boolean joinOne() {
        for (Block x : blocks) {
            if (x.kind != 1 || home.containsKey(x)) {
                continue;
            }
            Block taker = blocks.stream().filter(y -> takes(y, x)).min(Comparator.comparingInt(y -> y.t)).orElse(null);
            if (taker != null) {
                takers.put(x, taker);
                home.put(x, home.get(taker));
                home.get(taker).texts.add(x);
                home.get(taker).joined++;
                return true;
            }
        }
        return false;
    }

    private void derive() {
        over.clear();
        takers.clear();
        home.clear();
        stories.clear();
        TreeMap<Integer, Story> byNumber = new TreeMap<>();
        for (Block head : blocks) {
            if (head.kind == 0) {
                Story story = new Story();
                story.head = head;
                home.put(head, story);
                byNumber.put(head.number, story);
                boolean[][] reach = reachOf(head);
                for (Block block : blocks) {
                    if (block.kind != 0 && block.page == head.page && reach[block.a][block.t]) {
                        over.put(block, head);
                        if (block.kind == 1) {
                            story.texts.add(block);
                            home.put(block, story);
                        }
                    }
                }
                story.texts.sort(Comparator.comparingInt((Block x) -> x.a).thenComparingInt(x -> x.t));
            }
        }
        boolean more = true;
        while (more) {
            more = joinOne();
        }
        for (Block block : blocks) {
            if (block.kind == 1 && !home.containsKey(block)) {
                Story story = new Story();
                story.texts.add(block);
                home.put(block, story);
                byNumber.put(block.number, story);
            }
        }
        for (Story story : byNumber.values()) {
            story.number = stories.size();
            stories.add(story);
        }
        deriveArticles();
    }

    private void deriveArticles() {
        Map<Story, Story> aims = new HashMap<>();
        for (Story story : stories) {
            Block last = null;
            for (Block block : story.texts) {
                last = block.onward == null ? last : block;
            }
            if (last != null) {
                Block from = last;
                story.broken = true;
                Block to = blocks.stream().filter(x -> x.kind != 2 && x.from != null && x.page == from.onward[0]
                    && x.from[0] == from.page && x.from[1] == from.onward[1]).findFirst().orElse(null);
                if (to != null) {
                    aims.put(story, home.get(to));
                }
            }
        }
        for (Story to : stories) {
            for (Story story : stories) {
                if (story != to && aims.get(story) == to) {
                    story.next = to;
                    story.broken = false;
                    to.previous = story;
                    break;
                }
            }
        }
        articles.clear();
        Set<Story> done = new HashSet<>();
        for (Story story : stories) {
            if (story.previous == null) {
                addArticle(story, done);
            }
        }
        int plain = articles.size();
        for (Story story : stories) {
            if (!done.contains(story)) {
                addArticle(story, done);
            }
        }
        rings = articles.size() - plain;
    }

    private void addArticle(Story first, Set<Story> done) {
        List<Story> row = new ArrayList<>();
        for (Story story = first; story != null && done.add(story); story = story.next) {
            story.article = articles.size();
            row.add(story);
        }
        articles.add(row);
    }

    int reach(int h, int column) {
        Block head = find(h);
        if (head == null || head.kind != 0) {
            return UNKNOWN;
        }
        if (!in(column, 0, 7)) {
            return OUTSIDE;
        }
        boolean[] cells = reachOf(head)[column];
        for (int row = 29; row >= 0; row--) {
            if (cells[row]) {
                return row;
            }
        }
        return NONE;
    }

    int under(int k) {
        derive();
        Block block = find(k);
        return block == null ? UNKNOWN : block.kind == 0 ? STATE : number(over.get(block));
    }

    int story(int k) {
        derive();
        Block block = find(k);
        if (block == null) {
            return UNKNOWN;
        }
        return number(home.get(block.kind == 2 ? over.get(block) : block));
    }

    int takenBy(int k) {
        derive();
        Block block = find(k);
        return block == null ? UNKNOWN : block.kind != 1 ? STATE : number(takers.get(block));
    }

    private static int wordsOf(Story story) {
        return story.texts.stream().mapToInt(x -> x.words).sum();
    }

    int ofStory(int s, int what) {
        derive();
        if (!in(s, 0, stories.size() - 1)) {
            return UNKNOWN;
        }
        Story x = stories.get(s);
        int pictures = (int) over.entrySet().stream()
            .filter(e -> e.getKey().kind == 2 && e.getValue() == x.head).count();
        int[] all = {number(x.head), x.texts.size(), wordsOf(x), pictures, x.joined, number(x.next),
            number(x.previous), x.article, x.broken ? 1 : 0};
        return in(what, 0, 8) ? all[what] : OUTSIDE;
    }

    int text(int s, int i) {
        derive();
        if (!in(s, 0, stories.size() - 1)) {
            return UNKNOWN;
        }
        if (!in(i, 0, 23)) {
            return OUTSIDE;
        }
        List<Block> texts = stories.get(s).texts;
        return i < texts.size() ? texts.get(i).number : NONE;
    }

    int mark(int k, int which, int page, int word) {
        Block block = find(k);
        if (block == null) {
            return UNKNOWN;
        }
        if (!in(which, 0, 1) || !in(page, 0, 3) || !in(word, 0, 99)) {
            return OUTSIDE;
        }
        if (block.kind == 2 || block.kind == 0 && which == 0) {
            return STATE;
        }
        int had = had(block, which);
        if (which == 0) {
            block.onward = new int[] {page, word};
        } else {
            block.from = new int[] {page, word};
        }
        return had;
    }

    private static int had(Block block, int which) {
        return (which == 0 ? block.onward : block.from) == null ? 0 : 1;
    }

    int unmark(int k, int which) {
        Block block = find(k);
        if (block == null) {
            return UNKNOWN;
        }
        if (!in(which, 0, 1)) {
            return OUTSIDE;
        }
        int had = had(block, which);
        if (which == 0) {
            block.onward = null;
        } else {
            block.from = null;
        }
        return had;
    }

    int ofMark(int k, int which, int what) {
        Block block = find(k);
        if (block == null) {
            return UNKNOWN;
        }
        if (!in(which, 0, 1) || !in(what, 0, 1)) {
            return OUTSIDE;
        }
        int[] mark = which == 0 ? block.onward : block.from;
        return mark == null ? NONE : mark[what];
    }

    int ofArticle(int r, int what) {
        derive();
        if (!in(r, 0, articles.size() - 1)) {
            return UNKNOWN;
        }
        List<Story> row = articles.get(r);
        int texts = 0;
        int words = 0;
        int pages = 0;
        for (Story story : row) {
            texts += story.texts.size();
            words += wordsOf(story);
            for (Block block : inOrder(story)) {
                pages |= 1 << block.page;
            }
        }
        int[] all = {row.get(0).number, row.size(), texts, words, pages, r >= articles.size() - rings ? 1 : 0,
            row.get(row.size() - 1).broken ? 1 : 0};
        return in(what, 0, 6) ? all[what] : OUTSIDE;
    }

    private static List<Block> inOrder(Story story) {
        List<Block> all = new ArrayList<>();
        if (story.head != null) {
            all.add(story.head);
        }
        all.addAll(story.texts);
        return all;
    }

    int read(int r, int i) {
        derive();
        if (!in(r, 0, articles.size() - 1)) {
            return UNKNOWN;
        }
        if (!in(i, 0, 23)) {
            return OUTSIDE;
        }
        List<Block> all = new ArrayList<>();
        for (Story story : articles.get(r)) {
            all.addAll(inOrder(story));
        }
        return i < all.size() ? all.get(i).number : NONE;
    }

    int many(int what) {
        derive();
        long joined = takers.size();
        long alone = stories.stream().filter(x -> x.head == null).count();
        long broken = stories.stream().filter(x -> x.broken).count();
        long idle = blocks.stream().filter(x -> x.from != null && home.get(x).previous == null).count();
        long pictures = blocks.stream().filter(x -> x.kind == 2 && !over.containsKey(x)).count();
        long heads = blocks.stream().filter(x -> x.kind == 0).count();
        long texts = blocks.stream().filter(x -> x.kind == 1).count();
        long[] all = {blocks.size(), lines.size(), heads, texts, stories.size(), joined, alone, articles.size(),
            rings, broken, idle, pictures};
        return in(what, 0, 11) ? (int) all[what] : OUTSIDE;
    }
}
