/** Pages of a newspaper in columns, and the stories and articles that stand on them. */
public final class StoryColumns {
    public static final int UNKNOWN = -1, OUTSIDE = -2, STATE = -3, FULL = -4, NONE = -9;

    private static final int PAGES = 4, COLUMNS = 8, ROWS = 30;
    private static final int MOST_BLOCKS = 24, MOST_LINES = 12, MOST_WORDS = 99;
    private static final int HEAD = 0, TEXT = 1, PICTURE = 2;
    private static final int UPRIGHT = 0, FLAT = 1;
    private static final int ONWARD = 0, FROM = 1;

    private final Blocks blocks;
    private final Marks marks;
    private final Lines lines;
    private final Reaches reaches;
    private final Stories stories;
    private final Articles articles;
    private boolean stale;

    public StoryColumns() {
        blocks = new Blocks();
        marks = new Marks();
        lines = new Lines();
        reaches = new Reaches(blocks, lines);
        stories = new Stories(blocks, lines, reaches);
        articles = new Articles(blocks, marks, stories);
        stale = true;
    }

    // ---- 1 pages

    public int block(int page, int kind, int a, int b, int t, int u) {
        if (!isBelow(page, PAGES) || !isBelow(kind, PICTURE + 1)) {
            return OUTSIDE;
        }
        if (!isSpan(a, b, COLUMNS) || !isSpan(t, u, ROWS)) {
            return OUTSIDE;
        }
        if (blocks.meets(page, a, b, t, u)) {
            return STATE;
        }
        if (blocks.count >= MOST_BLOCKS) {
            return FULL;
        }
        marks.forgetAllOf(blocks.count);
        stale = true;
        return blocks.add(page, kind, a, b, t, u);
    }

    public int words(int k, int v) {
        if (!blocks.has(k)) {
            return UNKNOWN;
        }
        if (v < 1 || v > MOST_WORDS) {
            return OUTSIDE;
        }
        if (blocks.kind[k] != TEXT) {
            return STATE;
        }
        int before = blocks.words[k];
        blocks.words[k] = v;
        return before;
    }

    public int line(int page, int how, int at, int from, int until) {
        if (!isBelow(page, PAGES) || !isBelow(how, FLAT + 1)) {
            return OUTSIDE;
        }
        int across = how == UPRIGHT ? COLUMNS : ROWS;
        int along = how == UPRIGHT ? ROWS : COLUMNS;
        if (at < 1 || at >= across || !isSpan(from, until, along)) {
            return OUTSIDE;
        }
        if (lines.count >= MOST_LINES) {
            return FULL;
        }
        stale = true;
        return lines.add(page, how, at, from, until);
    }

    public int back() {
        if (blocks.count < 1) {
            return STATE;
        }
        blocks.count--;
        stale = true;
        return blocks.count;
    }

    public int erase() {
        if (lines.count < 1) {
            return STATE;
        }
        lines.count--;
        stale = true;
        return lines.count;
    }

    public int clear() {
        int before = blocks.count;
        blocks.count = 0;
        lines.count = 0;
        stale = true;
        return before;
    }

    public int turn() {
        lines.turnAbout();
        stale = true;
        return blocks.turnAbout();
    }

    public int ofBlock(int k, int what) {
        if (!blocks.has(k)) {
            return UNKNOWN;
        }
        switch (what) {
            case 0: return blocks.page[k];
            case 1: return blocks.kind[k];
            case 2: return blocks.left[k];
            case 3: return blocks.right[k];
            case 4: return blocks.top[k];
            case 5: return blocks.bottom[k];
            case 6: return blocks.kind[k] == TEXT ? blocks.words[k] : NONE;
            default: return OUTSIDE;
        }
    }

    public int ofLine(int k, int what) {
        if (!lines.has(k)) {
            return UNKNOWN;
        }
        switch (what) {
            case 0: return lines.page[k];
            case 1: return lines.how[k];
            case 2: return lines.place[k];
            case 3: return lines.from[k];
            case 4: return lines.until[k];
            default: return OUTSIDE;
        }
    }

    public int at(int page, int column, int row) {
        if (!isBelow(page, PAGES) || !isBelow(column, COLUMNS) || !isBelow(row, ROWS)) {
            return OUTSIDE;
        }
        return blocks.firstIn(page, column, column, row, row);
    }

    // ---- 2 stories

    public int reach(int h, int column) {
        if (!blocks.has(h) || blocks.kind[h] != HEAD) {
            return UNKNOWN;
        }
        if (!isBelow(column, COLUMNS)) {
            return OUTSIDE;
        }
        return reaches.lastRow(h, column);
    }

    public int under(int k) {
        if (!blocks.has(k)) {
            return UNKNOWN;
        }
        if (blocks.kind[k] == HEAD) {
            return STATE;
        }
        refresh();
        return stories.over[k];
    }

    public int story(int k) {
        if (!blocks.has(k)) {
            return UNKNOWN;
        }
        refresh();
        return stories.storyOf[k];
    }

    public int takenBy(int k) {
        if (!blocks.has(k)) {
            return UNKNOWN;
        }
        if (blocks.kind[k] != TEXT) {
            return STATE;
        }
        refresh();
        return stories.taker[k];
    }

    public int ofStory(int s, int what) {
        refresh();
        if (!stories.has(s)) {
            return UNKNOWN;
        }
        switch (what) {
            case 0: return stories.headOf(s);
            case 1: return stories.textsOf(s);
            case 2: return stories.wordsOf(s);
            case 3: return stories.picturesOf(s);
            case 4: return stories.joinedOf(s);
            case 5: return articles.next[s];
            case 6: return articles.previous[s];
            case 7: return articles.articleOf[s];
            case 8: return articles.isBroken(s) ? 1 : 0;
            default: return OUTSIDE;
        }
    }

    public int text(int s, int i) {
        refresh();
        if (!stories.has(s)) {
            return UNKNOWN;
        }
        if (!isBelow(i, MOST_BLOCKS)) {
            return OUTSIDE;
        }
        return stories.textAt(s, i);
    }

    // ---- 3 marks, articles

    public int mark(int k, int which, int page, int word) {
        if (!blocks.has(k)) {
            return UNKNOWN;
        }
        if (!isBelow(which, FROM + 1) || !isBelow(page, PAGES) || !isBelow(word, MOST_WORDS + 1)) {
            return OUTSIDE;
        }
        if (blocks.kind[k] == PICTURE || (blocks.kind[k] == HEAD && which == ONWARD)) {
            return STATE;
        }
        int before = marks.has(k, which) ? 1 : 0;
        marks.put(k, which, page, word);
        stale = true;
        return before;
    }

    public int unmark(int k, int which) {
        if (!blocks.has(k)) {
            return UNKNOWN;
        }
        if (!isBelow(which, FROM + 1)) {
            return OUTSIDE;
        }
        int before = marks.has(k, which) ? 1 : 0;
        marks.forget(k, which);
        stale = true;
        return before;
    }

    public int ofMark(int k, int which, int what) {
        if (!blocks.has(k)) {
            return UNKNOWN;
        }
        if (!isBelow(which, FROM + 1) || !isBelow(what, 2)) {
            return OUTSIDE;
        }
        return what == 0 ? marks.pageOf(k, which) : marks.wordOf(k, which);
    }

    public int ofArticle(int r, int what) {
        refresh();
        if (!articles.has(r)) {
            return UNKNOWN;
        }
        switch (what) {
            case 0: return articles.first[r];
            case 1: return articles.length[r];
            case 2: return articles.textsOf(r);
            case 3: return articles.wordsOf(r);
            case 4: return articles.pagesOf(r);
            case 5: return articles.isRing(r) ? 1 : 0;
            case 6: return articles.isBroken(articles.last[r]) ? 1 : 0;
            default: return OUTSIDE;
        }
    }

    public int read(int r, int i) {
        refresh();
        if (!articles.has(r)) {
            return UNKNOWN;
        }
        if (!isBelow(i, MOST_BLOCKS)) {
            return OUTSIDE;
        }
        return articles.blockAt(r, i);
    }

    public int many(int what) {
        refresh();
        switch (what) {
            case 0: return blocks.count;
            case 1: return lines.count;
            case 2: return blocks.manyOf(HEAD);
            case 3: return blocks.manyOf(TEXT);
            case 4: return stories.count;
            case 5: return stories.manyJoined();
            case 6: return stories.manyLeftOver();
            case 7: return articles.count;
            case 8: return articles.manyRings();
            case 9: return articles.manyBroken();
            case 10: return articles.manyIdleFrom();
            case 11: return stories.manyLoosePictures();
            default: return OUTSIDE;
        }
    }

    private static boolean isBelow(int value, int bound) {
        return value >= 0 && value < bound;
    }

    private static boolean isSpan(int from, int until, int bound) {
        return from >= 0 && from <= until && until < bound;
    }

    // Most calls only ask; what is derived is built anew only after a change.
    private void refresh() {
        if (stale) {
            stories.build();
            articles.build();
            stale = false;
        }
    }

    /** The blocks in the order in which they came. */
    private static final class Blocks {
        int count;
        final int[] page = new int[MOST_BLOCKS];
        final int[] kind = new int[MOST_BLOCKS];
        final int[] left = new int[MOST_BLOCKS];
        final int[] right = new int[MOST_BLOCKS];
        final int[] top = new int[MOST_BLOCKS];
        final int[] bottom = new int[MOST_BLOCKS];
        final int[] words = new int[MOST_BLOCKS];

        boolean has(int k) {
            return k >= 0 && k < count;
        }

        /** The caller has seen that there is room. */
        int add(int onPage, int ofKind, int a, int b, int t, int u) {
            int k = count;
            page[k] = onPage;
            kind[k] = ofKind;
            left[k] = a;
            right[k] = b;
            top[k] = t;
            bottom[k] = u;
            words[k] = 1;
            count++;
            return k;
        }

        boolean meets(int onPage, int a, int b, int t, int u) {
            return firstIn(onPage, a, b, t, u) != NONE;
        }

        int firstIn(int onPage, int a, int b, int t, int u) {
            for (int k = 0; k < count; k++) {
                boolean across = left[k] <= b && right[k] >= a;
                boolean down = top[k] <= u && bottom[k] >= t;
                if (page[k] == onPage && across && down) {
                    return k;
                }
            }
            return NONE;
        }

        int turnAbout() {
            int moved = 0;
            for (int k = 0; k < count; k++) {
                int newLeft = COLUMNS - 1 - right[k];
                int newRight = COLUMNS - 1 - left[k];
                if (newLeft != left[k]) {
                    moved++;
                }
                left[k] = newLeft;
                right[k] = newRight;
            }
            return moved;
        }

        int manyOf(int ofKind) {
            int many = 0;
            for (int k = 0; k < count; k++) {
                if (kind[k] == ofKind) {
                    many++;
                }
            }
            return many;
        }

        /** The first row of the next head below a row in a column; ROWS where there is none. */
        int headBelow(int onPage, int column, int row) {
            int least = ROWS;
            for (int k = 0; k < count; k++) {
                boolean has = left[k] <= column && right[k] >= column;
                if (kind[k] == HEAD && page[k] == onPage && has && top[k] > row) {
                    least = Math.min(least, top[k]);
                }
            }
            return least;
        }

        boolean isAhead(int k, int other) {
            return left[k] < left[other] || (left[k] == left[other] && top[k] < top[other]);
        }
    }

    /** The marks onward and from of each block. */
    private static final class Marks {
        final int[] page = new int[2 * MOST_BLOCKS];
        final int[] word = new int[2 * MOST_BLOCKS];

        boolean has(int k, int which) {
            return pageOf(k, which) != NONE;
        }

        int pageOf(int k, int which) {
            return page[2 * k + which];
        }

        int wordOf(int k, int which) {
            return word[2 * k + which];
        }

        void put(int k, int which, int itsPage, int itsWord) {
            page[2 * k + which] = itsPage;
            word[2 * k + which] = itsWord;
        }

        void forget(int k, int which) {
            put(k, which, NONE, NONE);
        }

        void forgetAllOf(int k) {
            forget(k, ONWARD);
            forget(k, FROM);
        }
    }

    /** The lines in the order in which they came. */
    private static final class Lines {
        int count;
        final int[] page = new int[MOST_LINES];
        final int[] how = new int[MOST_LINES];
        final int[] place = new int[MOST_LINES];
        final int[] from = new int[MOST_LINES];
        final int[] until = new int[MOST_LINES];

        boolean has(int k) {
            return k >= 0 && k < count;
        }

        /** The caller has seen that there is room. */
        int add(int onPage, int itsHow, int itsPlace, int itsFrom, int itsUntil) {
            int k = count;
            page[k] = onPage;
            how[k] = itsHow;
            place[k] = itsPlace;
            from[k] = itsFrom;
            until[k] = itsUntil;
            count++;
            return k;
        }

        void turnAbout() {
            for (int k = 0; k < count; k++) {
                if (how[k] == UPRIGHT) {
                    place[k] = COLUMNS - place[k];
                } else {
                    int newFrom = COLUMNS - 1 - until[k];
                    until[k] = COLUMNS - 1 - from[k];
                    from[k] = newFrom;
                }
            }
        }

        boolean hasUpright(int onPage, int x, int firstRow, int lastRow) {
            for (int k = 0; k < count; k++) {
                boolean here = how[k] == UPRIGHT && page[k] == onPage && place[k] == x;
                if (here && from[k] <= lastRow && until[k] >= firstRow) {
                    return true;
                }
            }
            return false;
        }

        /** The least y of a flat line below a row in a column; ROWS where there is none. */
        int flatBelow(int onPage, int column, int row) {
            int least = ROWS;
            for (int k = 0; k < count; k++) {
                boolean has = how[k] == FLAT && from[k] <= column && until[k] >= column;
                if (has && page[k] == onPage && place[k] > row) {
                    least = Math.min(least, place[k]);
                }
            }
            return least;
        }
    }

    /** How far heads reach; nothing of it is kept. */
    private static final class Reaches {
        final Blocks blocks;
        final Lines lines;

        Reaches(Blocks blocks, Lines lines) {
            this.blocks = blocks;
            this.lines = lines;
        }

        int lastColumn(int h) {
            int row = blocks.bottom[h] + 1;
            for (int x = blocks.left[h] + 1; x <= blocks.right[h]; x++) {
                if (lines.hasUpright(blocks.page[h], x, row, row)) {
                    return x - 1;
                }
            }
            return blocks.right[h];
        }

        /** NONE where the head reaches no row of the column. */
        int lastRow(int h, int column) {
            if (column < blocks.left[h] || column > lastColumn(h)) {
                return NONE;
            }
            int page = blocks.page[h];
            int bottom = blocks.bottom[h];
            int stop = Math.min(blocks.headBelow(page, column, bottom), lines.flatBelow(page, column, bottom));
            return stop - 1 > bottom ? stop - 1 : NONE;
        }

        int headOver(int k) {
            for (int h = 0; h < blocks.count; h++) {
                boolean above = blocks.page[h] == blocks.page[k] && blocks.bottom[h] < blocks.top[k];
                // NONE is below every row, so a head that reaches nothing never fits.
                if (blocks.kind[h] == HEAD && above && lastRow(h, blocks.left[k]) >= blocks.top[k]) {
                    return h;
                }
            }
            return NONE;
        }
    }

    /** The stories as the blocks and lines were when it was built. */
    private static final class Stories {
        final Blocks blocks;
        final Lines lines;
        final Reaches reaches;
        int count;
        // By block: the head that it is under, the text that took it, the block whose number its
        // story goes by (the head, or the text left over), and the story's number.
        final int[] over = new int[MOST_BLOCKS];
        final int[] taker = new int[MOST_BLOCKS];
        final int[] root = new int[MOST_BLOCKS];
        final int[] storyOf = new int[MOST_BLOCKS];
        // By story.
        final int[] rootOf = new int[MOST_BLOCKS];
        // The texts of all stories; those of one story stand in it in that story's order.
        final int[] sequence = new int[MOST_BLOCKS];
        int texts;

        Stories(Blocks blocks, Lines lines, Reaches reaches) {
            this.blocks = blocks;
            this.lines = lines;
            this.reaches = reaches;
        }

        void build() {
            texts = 0;
            for (int k = 0; k < blocks.count; k++) {
                over[k] = blocks.kind[k] == HEAD ? NONE : reaches.headOver(k);
                putUnderHead(k);
            }
            int round = 0;
            while (round < blocks.count && joinNext()) {
                round++;
            }
            for (int k = 0; k < blocks.count; k++) {
                if (isWithoutStory(k)) {
                    root[k] = k;
                    append(k);
                }
            }
            giveNumbers();
        }

        private void putUnderHead(int k) {
            taker[k] = NONE;
            root[k] = blocks.kind[k] == HEAD ? k : over[k];
            if (blocks.kind[k] == TEXT && over[k] != NONE) {
                insert(k);
            }
        }

        private void insert(int k) {
            int place = texts;
            while (place > 0 && blocks.isAhead(k, sequence[place - 1])) {
                sequence[place] = sequence[place - 1];
                place--;
            }
            sequence[place] = k;
            texts++;
        }

        private void append(int k) {
            sequence[texts] = k;
            texts++;
        }

        private boolean isWithoutStory(int k) {
            return blocks.kind[k] == TEXT && root[k] == NONE;
        }

        private boolean joinNext() {
            for (int k = 0; k < blocks.count; k++) {
                int by = isWithoutStory(k) ? takerFor(k) : NONE;
                if (by != NONE) {
                    taker[k] = by;
                    root[k] = root[by];
                    append(k);
                    return true;
                }
            }
            return false;
        }

        private int takerFor(int k) {
            int best = NONE;
            for (int y = 0; y < blocks.count; y++) {
                if (takes(y, k) && (best == NONE || blocks.top[y] < blocks.top[best])) {
                    best = y;
                }
            }
            return best;
        }

        private boolean takes(int y, int k) {
            boolean inStory = blocks.kind[y] == TEXT && root[y] != NONE;
            boolean beside = blocks.page[y] == blocks.page[k] && blocks.right[y] + 1 == blocks.left[k];
            if (!inStory || !beside) {
                return false;
            }
            int first = Math.max(blocks.top[y], blocks.top[k]);
            int last = Math.min(blocks.bottom[y], blocks.bottom[k]);
            return first <= last && !lines.hasUpright(blocks.page[k], blocks.left[k], first, last);
        }

        // A head may have come after its texts, so all roots have numbers first.
        private void giveNumbers() {
            count = 0;
            for (int k = 0; k < blocks.count; k++) {
                if (root[k] == k) {
                    rootOf[count] = k;
                    storyOf[k] = count;
                    count++;
                }
            }
            for (int k = 0; k < blocks.count; k++) {
                storyOf[k] = root[k] == NONE ? NONE : storyOf[root[k]];
            }
        }

        boolean has(int s) {
            return s >= 0 && s < count;
        }

        int headOf(int s) {
            return blocks.kind[rootOf[s]] == HEAD ? rootOf[s] : NONE;
        }

        int textsOf(int s) {
            int many = 0;
            for (int i = 0; i < texts; i++) {
                if (storyOf[sequence[i]] == s) {
                    many++;
                }
            }
            return many;
        }

        int wordsOf(int s) {
            int sum = 0;
            for (int i = 0; i < texts; i++) {
                if (storyOf[sequence[i]] == s) {
                    sum += blocks.words[sequence[i]];
                }
            }
            return sum;
        }

        int picturesOf(int s) {
            int many = 0;
            for (int k = 0; k < blocks.count; k++) {
                if (blocks.kind[k] == PICTURE && storyOf[k] == s) {
                    many++;
                }
            }
            return many;
        }

        int joinedOf(int s) {
            int many = 0;
            for (int k = 0; k < blocks.count; k++) {
                if (taker[k] != NONE && storyOf[k] == s) {
                    many++;
                }
            }
            return many;
        }

        int textAt(int s, int i) {
            int ahead = 0;
            for (int place = 0; place < texts; place++) {
                if (storyOf[sequence[place]] == s) {
                    if (ahead == i) {
                        return sequence[place];
                    }
                    ahead++;
                }
            }
            return NONE;
        }

        int manyJoined() {
            int many = 0;
            for (int k = 0; k < blocks.count; k++) {
                if (taker[k] != NONE) {
                    many++;
                }
            }
            return many;
        }

        int manyLeftOver() {
            return count - blocks.manyOf(HEAD);
        }

        int manyLoosePictures() {
            int many = 0;
            for (int k = 0; k < blocks.count; k++) {
                if (blocks.kind[k] == PICTURE && over[k] == NONE) {
                    many++;
                }
            }
            return many;
        }
    }

    /** The articles as the stories and marks were when it was built. */
    private static final class Articles {
        final Blocks blocks;
        final Marks marks;
        final Stories stories;
        int count;
        // By story: the text whose mark it goes on by, the stories linked, the article.
        final int[] onward = new int[MOST_BLOCKS];
        final int[] next = new int[MOST_BLOCKS];
        final int[] previous = new int[MOST_BLOCKS];
        final int[] articleOf = new int[MOST_BLOCKS];
        // By article.
        final int[] first = new int[MOST_BLOCKS];
        final int[] last = new int[MOST_BLOCKS];
        final int[] length = new int[MOST_BLOCKS];

        Articles(Blocks blocks, Marks marks, Stories stories) {
            this.blocks = blocks;
            this.marks = marks;
            this.stories = stories;
        }

        void build() {
            count = 0;
            for (int s = 0; s < stories.count; s++) {
                onward[s] = lastOnward(s);
                next[s] = NONE;
                previous[s] = NONE;
                articleOf[s] = NONE;
            }
            for (int s = 0; s < stories.count; s++) {
                linkToAim(s);
            }
            for (int s = 0; s < stories.count; s++) {
                if (previous[s] == NONE) {
                    addFrom(s);
                }
            }
            for (int s = 0; s < stories.count; s++) {
                if (articleOf[s] == NONE) {
                    addFrom(s);
                }
            }
        }

        private int lastOnward(int s) {
            int found = NONE;
            for (int i = 0; i < stories.texts; i++) {
                int k = stories.sequence[i];
                if (stories.storyOf[k] == s && marks.has(k, ONWARD)) {
                    found = k;
                }
            }
            return found;
        }

        // Stories come by their numbers, so the least is linked and the later ones find it taken.
        private void linkToAim(int s) {
            int aim = onward[s] == NONE ? NONE : aimOf(onward[s]);
            if (aim != NONE && aim != s && previous[aim] == NONE) {
                next[s] = aim;
                previous[aim] = s;
            }
        }

        private int aimOf(int k) {
            int page = marks.pageOf(k, ONWARD);
            int word = marks.wordOf(k, ONWARD);
            for (int to = 0; to < blocks.count; to++) {
                // A block without the mark has NONE for its page, which is no page.
                boolean answers = marks.pageOf(to, FROM) == blocks.page[k] && marks.wordOf(to, FROM) == word;
                if (blocks.page[to] == page && answers) {
                    return stories.storyOf[to];
                }
            }
            return NONE;
        }

        private void addFrom(int s) {
            int r = count;
            first[r] = s;
            length[r] = 0;
            int at = s;
            for (int step = 0; step < stories.count && at != NONE; step++) {
                if (articleOf[at] != NONE) {
                    break;
                }
                articleOf[at] = r;
                last[r] = at;
                length[r]++;
                at = next[at];
            }
            count++;
        }

        boolean has(int r) {
            return r >= 0 && r < count;
        }

        /** A story that goes on is broken just when it is linked to none. */
        boolean isBroken(int s) {
            return onward[s] != NONE && next[s] == NONE;
        }

        boolean isRing(int r) {
            return previous[first[r]] != NONE;
        }

        private boolean isReadIn(int r, int k) {
            int s = stories.storyOf[k];
            return blocks.kind[k] != PICTURE && s != NONE && articleOf[s] == r;
        }

        int textsOf(int r) {
            int many = 0;
            for (int k = 0; k < blocks.count; k++) {
                if (blocks.kind[k] == TEXT && isReadIn(r, k)) {
                    many++;
                }
            }
            return many;
        }

        int wordsOf(int r) {
            int sum = 0;
            for (int k = 0; k < blocks.count; k++) {
                if (blocks.kind[k] == TEXT && isReadIn(r, k)) {
                    sum += blocks.words[k];
                }
            }
            return sum;
        }

        int pagesOf(int r) {
            int set = 0;
            for (int k = 0; k < blocks.count; k++) {
                if (isReadIn(r, k)) {
                    set |= 1 << blocks.page[k];
                }
            }
            return set;
        }

        int blockAt(int r, int i) {
            int ahead = i;
            int s = first[r];
            for (int step = 0; step < length[r] && s != NONE; step++) {
                int head = stories.headOf(s);
                if (head != NONE) {
                    if (ahead == 0) {
                        return head;
                    }
                    ahead--;
                }
                int k = stories.textAt(s, ahead);
                if (k != NONE) {
                    return k;
                }
                ahead -= stories.textsOf(s);
                s = next[s];
            }
            return NONE;
        }

        int manyRings() {
            int many = 0;
            for (int r = 0; r < count; r++) {
                if (isRing(r)) {
                    many++;
                }
            }
            return many;
        }

        int manyBroken() {
            int many = 0;
            for (int s = 0; s < stories.count; s++) {
                if (isBroken(s)) {
                    many++;
                }
            }
            return many;
        }

        /** Marks from on blocks of stories to which none is linked. */
        int manyIdleFrom() {
            int many = 0;
            for (int k = 0; k < blocks.count; k++) {
                int s = stories.storyOf[k];
                if (marks.has(k, FROM) && s != NONE && previous[s] == NONE) {
                    many++;
                }
            }
            return many;
        }
    }
}
