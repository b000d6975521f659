/** Promises 18 to 23: marks, articles, how many. */
public final class ArticlesTest {
    private static final Due D = new Due();
    private static final int NONE = StoryColumns.NONE;
    private static final int ONWARD = 0, FROM = 1;

    public static void main(String[] args) {
        mark();
        markRefusals();
        unmark();
        ofMark();
        chain();
        lastMarkCounts();
        aimByLeastBlock();
        aimNeeds();
        twoWithOneAim();
        aimIsItself();
        ring();
        ringWithTail();
        ofArticleRefusals();
        readAll();
        many();
        firstBlockCounts();
        full();
        fullRing();
        D.end();
    }

    /** Heads 0, 2, 4, .. each with one text below it, one a page. */
    private static StoryColumns stories(int many) {
        StoryColumns x = new StoryColumns();
        for (int s = 0; s < many; s++) {
            x.block(s % 4, 0, s / 4 * 2, s / 4 * 2, 0, 0);
            x.block(s % 4, 1, s / 4 * 2, s / 4 * 2, 1, 9);
        }
        return x;
    }

    /** The text of story s goes on at the head of story to, by a word. */
    private static void link(StoryColumns x, int s, int to, int word) {
        x.mark(2 * s + 1, ONWARD, to % 4, word);
        x.mark(2 * to, FROM, s % 4, word);
    }

    private static int[] ofStories(StoryColumns x, int what) {
        int[] all = new int[x.many(4)];
        for (int s = 0; s < all.length; s++) {
            all[s] = x.ofStory(s, what);
        }
        return all;
    }

    private static int[] ofArticle(StoryColumns x, int r) {
        int[] all = new int[7];
        for (int what = 0; what < 7; what++) {
            all[what] = x.ofArticle(r, what);
        }
        return all;
    }

    private static int[] reading(StoryColumns x, int r, int many) {
        int[] all = new int[many];
        for (int i = 0; i < many; i++) {
            all[i] = x.read(r, i);
        }
        return all;
    }

    private static void mark() {
        StoryColumns x = stories(1);
        D.due("18 onward", x.mark(1, ONWARD, 3, 99), 0);
        D.due("18 in place", x.mark(1, ONWARD, 0, 0), 1);
        D.due("18 from, text", x.mark(1, FROM, 2, 5), 0);
        D.due("18 from, head", x.mark(0, FROM, 1, 6), 0);
        D.due("18 in place", x.mark(0, FROM, 1, 6), 1);
        D.due("20 page", x.ofMark(1, ONWARD, 0), 0);
        D.due("20 word", x.ofMark(1, ONWARD, 1), 0);
        D.due("20 page", x.ofMark(1, FROM, 0), 2);
        D.due("20 word", x.ofMark(1, FROM, 1), 5);
        D.due("20 page", x.ofMark(0, FROM, 0), 1);
        D.due("20 word", x.ofMark(0, FROM, 1), 6);
    }

    private static void markRefusals() {
        StoryColumns x = stories(1);
        x.block(0, 2, 7, 7, 0, 0);
        D.due("18 head onward", x.mark(0, ONWARD, 0, 0), StoryColumns.STATE);
        D.due("18 picture onward", x.mark(2, ONWARD, 0, 0), StoryColumns.STATE);
        D.due("18 picture from", x.mark(2, FROM, 0, 0), StoryColumns.STATE);
        int[][] wrong = {{-1, 0, 0}, {2, 0, 0}, {0, -1, 0}, {0, 4, 0}, {0, 0, -1}, {0, 0, 100}};
        for (int[] w : wrong) {
            for (int k = 0; k < 3; k++) {
                D.due("18 outside", x.mark(k, w[0], w[1], w[2]), StoryColumns.OUTSIDE);
            }
            D.due("18 unknown ahead of outside", x.mark(3, w[0], w[1], w[2]), StoryColumns.UNKNOWN);
        }
        D.due("18 unknown", x.mark(-1, 0, 0, 0), StoryColumns.UNKNOWN);
        D.due("18 nothing came", x.ofMark(0, ONWARD, 0), NONE);
        D.due("18 nothing came", x.ofMark(2, FROM, 0), NONE);
    }

    private static void unmark() {
        StoryColumns x = stories(2);
        x.block(0, 2, 7, 7, 0, 0);
        link(x, 0, 1, 5);
        D.due("19 linked", x.ofStory(0, 5), 1);
        D.due("19 had one", x.unmark(2, FROM), 1);
        D.due("19 has none", x.unmark(2, FROM), 0);
        D.due("19 other mark stays", x.ofMark(1, ONWARD, 1), 5);
        D.due("19 no more linked", x.ofStory(0, 5), NONE);
        D.due("19 broken", x.ofStory(0, 8), 1);
        x.mark(1, FROM, 0, 0);
        D.due("19 had one", x.unmark(1, ONWARD), 1);
        D.due("19 from stays", x.ofMark(1, FROM, 0), 0);
        D.due("19 no more broken", x.ofStory(0, 8), 0);
        D.due("19 head", x.unmark(0, ONWARD), 0);
        D.due("19 picture", x.unmark(4, FROM), 0);
        D.due("19 picture", x.unmark(4, ONWARD), 0);
        D.due("19 outside", x.unmark(0, 2), StoryColumns.OUTSIDE);
        D.due("19 outside", x.unmark(0, -1), StoryColumns.OUTSIDE);
        D.due("19 unknown", x.unmark(5, 0), StoryColumns.UNKNOWN);
        D.due("19 unknown ahead of outside", x.unmark(-1, 2), StoryColumns.UNKNOWN);
    }

    private static void ofMark() {
        StoryColumns x = stories(1);
        for (int which = 0; which < 2; which++) {
            for (int what = 0; what < 2; what++) {
                D.due("20 none", x.ofMark(1, which, what), NONE);
            }
        }
        D.due("20 outside", x.ofMark(0, 2, 0), StoryColumns.OUTSIDE);
        D.due("20 outside", x.ofMark(0, -1, 0), StoryColumns.OUTSIDE);
        D.due("20 outside", x.ofMark(0, 0, 2), StoryColumns.OUTSIDE);
        D.due("20 outside", x.ofMark(0, 0, -1), StoryColumns.OUTSIDE);
        D.due("20 unknown", x.ofMark(2, 0, 0), StoryColumns.UNKNOWN);
        D.due("20 unknown ahead of outside", x.ofMark(-1, 2, 0), StoryColumns.UNKNOWN);
    }

    private static void chain() {
        StoryColumns x = stories(4);
        link(x, 3, 1, 7);
        link(x, 1, 0, 8);
        x.words(7, 10);
        x.words(3, 20);
        x.words(1, 30);
        D.row("16 next", ofStories(x, 5), NONE, 0, NONE, 1);
        D.row("16 previous", ofStories(x, 6), 1, 3, NONE, NONE);
        D.row("16 article", ofStories(x, 7), 1, 1, 0, 1);
        D.row("21 article 0", ofArticle(x, 0), 2, 1, 1, 1, 4, 0, 0);
        D.row("21 article 1", ofArticle(x, 1), 3, 3, 3, 60, 11, 0, 0);
        D.row("22 read 1", reading(x, 1, 7), 6, 7, 2, 3, 0, 1, NONE);
        x.mark(1, ONWARD, 2, 50);
        D.row("21 its last is broken", ofArticle(x, 1), 3, 3, 3, 60, 11, 0, 1);
    }

    private static void lastMarkCounts() {
        StoryColumns x = new StoryColumns();
        x.block(0, 0, 0, 1, 0, 0);
        x.block(0, 1, 1, 1, 1, 9);
        x.block(0, 1, 0, 0, 1, 9);
        x.block(0, 1, 2, 2, 1, 9);
        x.block(1, 0, 0, 0, 0, 0);
        x.block(2, 0, 0, 0, 0, 0);
        x.block(3, 0, 0, 0, 0, 0);
        for (int k = 4; k < 7; k++) {
            x.mark(k, FROM, 0, 3);
        }
        x.mark(2, ONWARD, 1, 3);
        D.due("16 by the only one", x.ofStory(0, 5), 1);
        x.mark(1, ONWARD, 2, 3);
        D.due("16 by the last in its order", x.ofStory(0, 5), 2);
        x.mark(3, ONWARD, 3, 3);
        D.due("16 by the joined one", x.ofStory(0, 5), 3);
        x.mark(3, ONWARD, 3, 4);
        D.due("16 the last alone counts", x.ofStory(0, 5), NONE);
        D.due("16 so it is broken", x.ofStory(0, 8), 1);
    }

    private static void aimByLeastBlock() {
        StoryColumns x = new StoryColumns();
        x.block(1, 1, 4, 4, 1, 9);
        x.block(0, 1, 0, 0, 0, 0);
        x.block(1, 0, 0, 0, 0, 0);
        x.block(1, 0, 4, 4, 0, 0);
        x.mark(1, ONWARD, 1, 3);
        x.mark(2, FROM, 0, 3);
        D.due("16 aim", x.ofStory(0, 5), 1);
        x.mark(0, FROM, 0, 3);
        D.due("16 the story of the least block", x.ofStory(0, 5), 2);
        D.due("23 idle marks", x.many(10), 1);
    }

    private static void aimNeeds() {
        StoryColumns x = stories(5);
        x.mark(1, ONWARD, 1, 3);
        x.mark(2, FROM, 0, 4);
        D.due("16 another word", x.ofStory(0, 5), NONE);
        x.mark(2, FROM, 1, 3);
        D.due("16 another page in the mark", x.ofStory(0, 5), NONE);
        x.mark(2, FROM, 0, 3);
        D.due("16 as it must be", x.ofStory(0, 5), 1);
        x.mark(1, ONWARD, 2, 3);
        D.due("16 on another page", x.ofStory(0, 5), NONE);
        D.due("16 broken", x.ofStory(0, 8), 1);
        x.mark(1, ONWARD, 0, 3);
        x.mark(8, FROM, 0, 3);
        D.due("16 on the same page", x.ofStory(0, 5), 4);
        D.due("16 from a text", x.mark(9, FROM, 0, 9), 0);
        x.mark(1, ONWARD, 0, 9);
        D.due("16 at a text", x.ofStory(0, 5), 4);
    }

    private static void twoWithOneAim() {
        StoryColumns x = stories(6);
        link(x, 5, 2, 3);
        x.mark(3, ONWARD, 2, 3);
        D.row("16 least number links", ofStories(x, 5), NONE, 2, NONE, NONE, NONE, NONE);
        D.row("16 linked to it", ofStories(x, 6), NONE, NONE, 1, NONE, NONE, NONE);
        D.row("16 the other is broken", ofStories(x, 8), 0, 0, 0, 0, 0, 1);
        D.row("16 articles", ofStories(x, 7), 0, 1, 1, 2, 3, 4);
        D.due("23 broken", x.many(9), 1);
    }

    private static void aimIsItself() {
        StoryColumns x = stories(2);
        link(x, 0, 0, 3);
        D.due("16 not linked", x.ofStory(0, 5), NONE);
        D.due("16 none linked to it", x.ofStory(0, 6), NONE);
        D.due("16 broken", x.ofStory(0, 8), 1);
        D.row("21 no ring", ofArticle(x, 0), 0, 1, 1, 1, 1, 0, 1);
        D.due("23 idle mark", x.many(10), 1);
        x.mark(0, FROM, 1, 3);
        x.mark(1, FROM, 0, 3);
        x.mark(3, ONWARD, 0, 3);
        D.due("16 another is linked to it", x.ofStory(0, 6), 1);
        D.due("16 it is broken still", x.ofStory(0, 8), 1);
        D.row("21 article", ofArticle(x, 0), 1, 2, 2, 2, 3, 0, 1);
    }

    private static void ring() {
        StoryColumns x = stories(5);
        link(x, 1, 3, 1);
        link(x, 3, 2, 2);
        link(x, 2, 1, 3);
        D.row("16 articles", ofStories(x, 7), 0, 2, 2, 2, 1);
        D.row("21 the ring", ofArticle(x, 2), 1, 3, 3, 3, 14, 1, 0);
        D.row("21 no ring", ofArticle(x, 1), 4, 1, 1, 1, 1, 0, 0);
        D.row("22 all around", reading(x, 2, 7), 2, 3, 6, 7, 4, 5, NONE);
        D.due("23 rings", x.many(8), 1);
        D.due("23 articles", x.many(7), 3);
        D.due("23 broken", x.many(9), 0);
        link(x, 4, 0, 4);
        link(x, 0, 4, 5);
        D.row("16 rings by their least", ofStories(x, 7), 0, 1, 1, 1, 0);
        D.due("23 rings", x.many(8), 2);
        D.due("23 idle marks", x.many(10), 0);
        x.unmark(3, ONWARD);
        D.due("23 a ring less", x.many(8), 1);
        D.row("16 rings come last", ofStories(x, 7), 1, 0, 0, 0, 1);
        D.row("21 from its first", ofArticle(x, 0), 3, 3, 3, 3, 14, 0, 0);
    }

    /** 0 aims into the ring of 1 and 2, but 0 has the least number: it breaks the ring up. */
    private static void ringWithTail() {
        StoryColumns x = stories(4);
        x.mark(2, FROM, 0, 3);
        x.mark(3, FROM, 2, 3);
        x.mark(4, FROM, 1, 3);
        x.mark(3, ONWARD, 2, 3);
        x.mark(5, ONWARD, 1, 3);
        D.due("23 ring", x.many(8), 1);
        x.mark(1, ONWARD, 1, 3);
        D.due("23 no ring", x.many(8), 0);
        D.row("16 articles", ofStories(x, 7), 0, 0, 0, 1);
        D.row("16 broken", ofStories(x, 8), 0, 0, 1, 0);
        D.row("21 its last is broken", ofArticle(x, 0), 0, 3, 3, 3, 7, 0, 1);
        x.unmark(1, ONWARD);
        x.mark(2, FROM, 3, 3);
        x.mark(7, ONWARD, 1, 3);
        D.due("23 3 comes too late", x.many(8), 1);
        D.row("16 broken", ofStories(x, 8), 0, 0, 0, 1);
    }

    private static void ofArticleRefusals() {
        StoryColumns x = stories(2);
        D.due("21 outside", x.ofArticle(0, 7), StoryColumns.OUTSIDE);
        D.due("21 outside", x.ofArticle(0, -1), StoryColumns.OUTSIDE);
        D.due("21 unknown", x.ofArticle(2, 0), StoryColumns.UNKNOWN);
        D.due("21 unknown ahead of outside", x.ofArticle(-1, 7), StoryColumns.UNKNOWN);
        D.due("22 outside", x.read(0, 24), StoryColumns.OUTSIDE);
        D.due("22 outside", x.read(0, -1), StoryColumns.OUTSIDE);
        D.due("22 unknown", x.read(2, 0), StoryColumns.UNKNOWN);
        D.due("22 unknown ahead of outside", x.read(-1, 24), StoryColumns.UNKNOWN);
        x.block(3, 2, 0, 0, 0, 0);
        x.block(0, 2, 0, 0, 20, 20);
        D.due("21 pictures are no page", x.ofArticle(0, 4), 1);
        D.due("21 pictures make no article", x.many(7), 2);
        D.row("22 pictures are not read", reading(x, 0, 3), 0, 1, NONE);
    }

    private static void readAll() {
        StoryColumns x = new StoryColumns();
        x.block(0, 0, 0, 7, 0, 0);
        for (int k = 1; k < 23; k++) {
            x.block(0, 1, 0, 0, k, k);
        }
        x.block(1, 1, 0, 0, 0, 0);
        x.mark(22, ONWARD, 1, 0);
        x.mark(23, FROM, 0, 0);
        for (int i = 0; i < 24; i++) {
            D.due("22 read(0, " + i + ")", x.read(0, i), i);
        }
        D.row("21 two pages", ofArticle(x, 0), 0, 2, 23, 23, 3, 0, 0);
    }

    private static void many() {
        StoryColumns x = new StoryColumns();
        x.block(0, 0, 0, 0, 0, 0);
        x.block(0, 1, 0, 0, 1, 5);
        x.block(0, 1, 1, 1, 1, 5);
        x.block(0, 2, 0, 0, 6, 6);
        x.block(0, 2, 1, 1, 6, 6);
        x.block(1, 1, 0, 0, 0, 0);
        x.block(1, 2, 0, 0, 1, 1);
        x.block(2, 0, 0, 0, 0, 0);
        x.block(2, 1, 0, 0, 1, 1);
        x.block(2, 1, 4, 4, 1, 1);
        x.line(3, 0, 1, 0, 0);
        x.mark(1, ONWARD, 2, 1);
        x.mark(5, ONWARD, 2, 9);
        x.mark(7, FROM, 0, 1);
        x.mark(8, FROM, 3, 3);
        x.mark(9, FROM, 3, 3);
        x.mark(0, FROM, 3, 3);
        x.mark(2, FROM, 3, 3);
        int[] want = {10, 1, 2, 5, 4, 1, 2, 3, 0, 1, 3, 2};
        for (int what = 0; what < 12; what++) {
            D.due("23 many(" + what + ")", x.many(what), want[what]);
        }
        D.due("23 outside", x.many(-1), StoryColumns.OUTSIDE);
        D.due("23 outside", x.many(12), StoryColumns.OUTSIDE);
        D.due("23 outside", x.many(Integer.MAX_VALUE), StoryColumns.OUTSIDE);
    }

    private static void firstBlockCounts() {
        StoryColumns x = new StoryColumns();
        x.block(2, 1, 0, 0, 0, 0);
        x.words(0, 40);
        x.mark(0, ONWARD, 0, 0);
        D.row("21 text 0 alone", ofArticle(x, 0), 0, 1, 1, 40, 4, 0, 1);
        D.due("23 broken", x.many(9), 1);
        x.mark(0, FROM, 1, 1);
        D.due("23 idle mark", x.many(10), 1);
    }

    /** 24 texts left over and 12 lines: each row of the object is filled to its end. */
    private static void full() {
        StoryColumns x = new StoryColumns();
        for (int k = 0; k < 24; k++) {
            x.block(k % 4, 1, k / 4, k / 4, k, k);
            x.mark(k, ONWARD, 3, 50);
            x.mark(k, FROM, 3, 60 + k);
        }
        for (int k = 0; k < 12; k++) {
            x.line(k % 4, k % 2, 1 + k / 2, 0, 7);
        }
        int[] want = {24, 12, 0, 24, 24, 0, 24, 24, 0, 24, 24, 0};
        for (int what = 0; what < 12; what++) {
            D.due("23 full many(" + what + ")", x.many(what), want[what]);
        }
        for (int k = 0; k < 24; k++) {
            D.due("16 broken", x.ofStory(k, 8), 1);
            D.due("16 no picture", x.ofStory(k, 3), 0);
            D.due("16 none joined", x.ofStory(k, 4), 0);
            D.due("17 its text", x.text(k, 0), k);
            D.row("21 alone", ofArticle(x, k), k, 1, 1, 1, 1 << k % 4, 0, 1);
            D.due("22 read", x.read(k, 0), k);
            D.due("22 read", x.read(k, 23), NONE);
        }
        D.due("21 no more", x.ofArticle(24, 0), StoryColumns.UNKNOWN);
        D.due("8 turn", x.turn(), 24);
    }

    /** Each text goes on at the one that came ahead of it, the first at the last. */
    private static void fullRing() {
        StoryColumns x = new StoryColumns();
        for (int k = 0; k < 24; k++) {
            x.block(k % 4, 1, 0, 0, k, k);
            x.words(k, 99);
        }
        for (int k = 0; k < 24; k++) {
            int to = (k + 23) % 24;
            x.mark(k, ONWARD, to % 4, k);
            x.mark(to, FROM, k % 4, k);
        }
        D.row("21 ring of all", ofArticle(x, 0), 0, 24, 24, 24 * 99, 15, 1, 0);
        D.due("23 articles", x.many(7), 1);
        D.due("23 rings", x.many(8), 1);
        for (int i = 0; i < 24; i++) {
            D.due("22 read", x.read(0, i), (24 - i) % 24);
        }
        x.unmark(12, ONWARD);
        D.row("21 a row of all", ofArticle(x, 0), 11, 24, 24, 24 * 99, 15, 0, 0);
        D.due("22 the first", x.read(0, 0), 11);
        D.due("22 the last", x.read(0, 23), 12);
    }
}
