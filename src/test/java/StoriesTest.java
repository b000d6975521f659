/** Promises 12 to 17: reach, what is under a head, stories. */
public final class StoriesTest {
    private static final Due D = new Due();
    private static final int NONE = StoryColumns.NONE;

    public static void main(String[] args) {
        reachDown();
        reachAcross();
        reachRefusals();
        under();
        underByFirstCell();
        order();
        joinChain();
        joinLeastNumberFirst();
        joinNeeds();
        joinLeastRow();
        story();
        takenByRefusals();
        ofStory();
        text();
        lastRowOfReach();
        firstBlockCounts();
        asItIsWhenAsked();
        D.end();
    }

    private static int[] reach(StoryColumns x, int h) {
        int[] all = new int[8];
        for (int column = 0; column < 8; column++) {
            all[column] = x.reach(h, column);
        }
        return all;
    }

    private static int[] texts(StoryColumns x, int s) {
        int[] all = new int[x.ofStory(s, 1)];
        for (int i = 0; i < all.length; i++) {
            all[i] = x.text(s, i);
        }
        return all;
    }

    private static void reachDown() {
        StoryColumns x = new StoryColumns();
        x.block(0, 0, 1, 5, 2, 3);
        D.row("12 to the end", reach(x, 0), NONE, 29, 29, 29, 29, 29, NONE, NONE);
        x.block(0, 0, 2, 2, 10, 11);
        x.block(0, 0, 3, 3, 4, 4);
        x.block(0, 0, 4, 7, 0, 1);
        x.block(1, 0, 0, 7, 5, 5);
        x.block(0, 1, 1, 1, 5, 9);
        D.row("12 to heads below", reach(x, 0), NONE, 29, 9, NONE, 29, 29, NONE, NONE);
        D.row("12 stopped by one below", reach(x, 3), NONE, NONE, NONE, NONE, NONE, NONE, 29, 29);
        x.line(0, 1, 20, 0, 2);
        x.line(0, 1, 4, 4, 4);
        x.line(0, 1, 3, 1, 7);
        x.line(0, 1, 5, 5, 5);
        x.line(2, 1, 6, 0, 7);
        D.row("12 to flat lines", reach(x, 0), NONE, 19, 9, NONE, NONE, 4, NONE, NONE);
        x.line(0, 1, 15, 1, 1);
        x.line(0, 1, 10, 2, 2);
        D.row("12 to the least", reach(x, 0), NONE, 14, 9, NONE, NONE, 4, NONE, NONE);
        x.block(3, 0, 0, 7, 29, 29);
        D.row("12 at the bottom", reach(x, 6), NONE, NONE, NONE, NONE, NONE, NONE, NONE, NONE);
        x.block(2, 0, 0, 0, 28, 28);
        D.due("12 one row", x.reach(7, 0), 29);
    }

    private static void reachAcross() {
        StoryColumns x = new StoryColumns();
        x.block(0, 0, 2, 5, 10, 12);
        x.line(0, 0, 2, 0, 29);
        x.line(0, 0, 6, 0, 29);
        x.line(0, 0, 3, 0, 12);
        x.line(0, 0, 3, 14, 29);
        x.line(1, 0, 3, 13, 13);
        D.row("12 lines elsewhere", reach(x, 0), NONE, NONE, 29, 29, 29, 29, NONE, NONE);
        x.line(0, 0, 5, 13, 13);
        D.row("12 a line at 5", reach(x, 0), NONE, NONE, 29, 29, 29, NONE, NONE, NONE);
        x.line(0, 0, 3, 0, 13);
        D.row("12 a line at 3", reach(x, 0), NONE, NONE, 29, NONE, NONE, NONE, NONE, NONE);
        x.line(0, 0, 4, 13, 20);
        D.row("12 the least", reach(x, 0), NONE, NONE, 29, NONE, NONE, NONE, NONE, NONE);
    }

    private static void reachRefusals() {
        StoryColumns x = new StoryColumns();
        x.block(0, 0, 0, 0, 0, 0);
        x.block(0, 1, 0, 0, 1, 1);
        x.block(0, 2, 0, 0, 2, 2);
        D.due("12 text", x.reach(1, 0), StoryColumns.UNKNOWN);
        D.due("12 picture", x.reach(2, 0), StoryColumns.UNKNOWN);
        D.due("12 no block", x.reach(3, 0), StoryColumns.UNKNOWN);
        D.due("12 no block", x.reach(-1, 0), StoryColumns.UNKNOWN);
        D.due("12 unknown ahead of outside", x.reach(1, 8), StoryColumns.UNKNOWN);
        D.due("12 outside", x.reach(0, 8), StoryColumns.OUTSIDE);
        D.due("12 outside", x.reach(0, -1), StoryColumns.OUTSIDE);
    }

    private static void under() {
        StoryColumns x = new StoryColumns();
        x.block(0, 1, 1, 1, 5, 9);
        x.block(0, 2, 2, 2, 5, 9);
        x.block(0, 1, 3, 3, 0, 3);
        x.block(0, 0, 1, 3, 4, 4);
        x.block(1, 1, 1, 1, 5, 9);
        x.block(0, 0, 1, 1, 12, 12);
        x.block(0, 1, 1, 1, 13, 13);
        D.due("13 text", x.under(0), 3);
        D.due("13 picture", x.under(1), 3);
        D.due("13 above the head", x.under(2), NONE);
        D.due("13 other page", x.under(4), NONE);
        D.due("13 nearer head", x.under(6), 5);
        D.due("13 head", x.under(3), StoryColumns.STATE);
        D.due("13 unknown", x.under(7), StoryColumns.UNKNOWN);
        D.due("13 unknown", x.under(-1), StoryColumns.UNKNOWN);
        x.line(0, 1, 5, 1, 1);
        D.due("13 behind a flat line", x.under(0), NONE);
        D.due("13 beside the flat line", x.under(1), 3);
        x.line(0, 0, 2, 5, 5);
        D.due("13 behind an upright line", x.under(1), NONE);
        x.erase();
        D.due("13 line gone", x.under(1), 3);
        x.erase();
        D.due("13 line gone", x.under(0), 3);
    }

    private static void underByFirstCell() {
        StoryColumns x = new StoryColumns();
        x.block(0, 0, 2, 3, 0, 0);
        x.block(0, 1, 3, 5, 1, 4);
        x.block(0, 1, 1, 2, 1, 4);
        x.block(0, 0, 0, 0, 5, 5);
        x.block(0, 1, 0, 7, 6, 9);
        D.due("13 its first column counts", x.under(1), 0);
        D.due("13 not its last one", x.under(2), NONE);
        D.due("13 not the head over another", x.under(4), 3);
    }

    private static void order() {
        StoryColumns x = new StoryColumns();
        x.block(0, 1, 2, 2, 1, 4);
        x.block(0, 1, 0, 0, 9, 12);
        x.block(0, 1, 0, 0, 1, 4);
        x.block(0, 1, 1, 1, 20, 22);
        x.block(0, 0, 0, 2, 0, 0);
        x.block(0, 1, 0, 0, 5, 8);
        x.block(0, 2, 1, 1, 1, 4);
        x.block(0, 1, 1, 1, 5, 6);
        D.row("17 by columns, then rows", texts(x, 0), 2, 5, 1, 7, 3, 0);
        D.due("14 the only story", x.many(4), 1);
    }

    private static void joinChain() {
        StoryColumns x = new StoryColumns();
        x.block(0, 0, 0, 0, 0, 0);
        x.block(0, 1, 3, 3, 1, 5);
        x.block(0, 1, 2, 2, 1, 5);
        x.block(0, 1, 1, 1, 1, 5);
        x.block(0, 1, 0, 0, 1, 5);
        x.block(0, 1, 5, 5, 1, 5);
        D.row("17 joined as they come", texts(x, 0), 4, 3, 2, 1);
        D.due("15 takenBy(4)", x.takenBy(4), NONE);
        D.due("15 takenBy(3)", x.takenBy(3), 4);
        D.due("15 takenBy(2)", x.takenBy(2), 3);
        D.due("15 takenBy(1)", x.takenBy(1), 2);
        D.due("15 takenBy(5)", x.takenBy(5), NONE);
        D.due("13 joined is under none", x.under(3), NONE);
        D.due("16 joined", x.ofStory(0, 4), 3);
        D.row("17 left over", texts(x, 1), 5);
        D.due("16 no head", x.ofStory(1, 0), NONE);
    }

    /** A lower number that can be taken only later goes ahead of all that still wait then. */
    private static void joinLeastNumberFirst() {
        StoryColumns x = new StoryColumns();
        x.block(0, 0, 0, 0, 0, 0);
        x.block(0, 1, 2, 2, 1, 5);
        x.block(0, 1, 1, 1, 6, 9);
        x.block(0, 1, 1, 1, 10, 12);
        x.block(0, 1, 0, 0, 1, 29);
        x.block(0, 1, 1, 1, 1, 5);
        D.row("17 by numbers", texts(x, 0), 4, 2, 3, 5, 1);
        x.block(0, 1, 1, 1, 13, 20);
        D.row("17 1 goes ahead of 6", texts(x, 0), 4, 2, 3, 5, 1, 6);
    }

    private static StoryColumns pair(int top, int bottom) {
        StoryColumns x = new StoryColumns();
        x.block(0, 0, 0, 1, 0, 0);
        x.block(0, 1, 0, 1, 5, 9);
        x.block(0, 1, 2, 3, top, bottom);
        return x;
    }

    private static void joinNeeds() {
        D.due("15 a row above in common", pair(0, 5).takenBy(2), 1);
        D.due("15 a row below in common", pair(9, 12).takenBy(2), 1);
        D.due("15 no row above", pair(0, 4).takenBy(2), NONE);
        D.due("15 no row below", pair(10, 12).takenBy(2), NONE);
        StoryColumns x = pair(8, 12);
        x.line(0, 0, 2, 0, 7);
        x.line(0, 0, 2, 10, 29);
        x.line(0, 0, 1, 0, 29);
        x.line(0, 0, 3, 0, 29);
        x.line(1, 0, 2, 0, 29);
        x.line(0, 1, 9, 0, 7);
        D.due("15 lines elsewhere", x.takenBy(2), 1);
        x.line(0, 0, 2, 9, 9);
        D.due("15 a line between", x.takenBy(2), NONE);
        x.erase();
        x.line(0, 0, 2, 0, 8);
        D.due("15 a line between", x.takenBy(2), NONE);
        StoryColumns gap = new StoryColumns();
        gap.block(0, 0, 0, 0, 0, 0);
        gap.block(0, 1, 0, 0, 1, 9);
        gap.block(0, 1, 2, 2, 1, 9);
        gap.block(1, 1, 1, 1, 1, 9);
        gap.block(0, 2, 1, 1, 1, 9);
        gap.block(0, 1, 3, 3, 1, 9);
        D.due("15 a column between", gap.takenBy(2), NONE);
        D.due("15 another page", gap.takenBy(3), NONE);
        D.due("15 left over takes none", gap.takenBy(5), NONE);
        D.due("14 stories", gap.many(4), 4);
    }

    private static void joinLeastRow() {
        StoryColumns x = new StoryColumns();
        x.block(0, 0, 0, 0, 10, 10);
        x.block(0, 1, 0, 0, 11, 14);
        x.block(0, 0, 0, 0, 0, 0);
        x.block(0, 1, 0, 0, 1, 9);
        x.block(0, 1, 1, 1, 0, 29);
        D.due("15 the upper one", x.takenBy(4), 3);
        D.due("14 in its story", x.story(4), 1);
        x.line(0, 0, 1, 4, 4);
        D.due("15 the lower one, the upper is behind a line", x.takenBy(4), 1);
        D.due("14 in its story", x.story(4), 0);
    }

    private static void story() {
        StoryColumns x = new StoryColumns();
        x.block(1, 1, 0, 0, 0, 0);
        x.block(0, 1, 0, 0, 1, 1);
        x.block(0, 2, 0, 0, 2, 2);
        x.block(1, 2, 0, 0, 1, 1);
        x.block(2, 0, 0, 0, 0, 0);
        x.block(0, 0, 0, 0, 0, 0);
        x.block(3, 1, 0, 0, 0, 0);
        D.due("14 left over", x.story(0), 0);
        D.due("14 text", x.story(1), 2);
        D.due("14 picture", x.story(2), 2);
        D.due("14 loose picture", x.story(3), NONE);
        D.due("14 head alone", x.story(4), 1);
        D.due("14 head", x.story(5), 2);
        D.due("14 left over", x.story(6), 3);
        D.due("14 unknown", x.story(7), StoryColumns.UNKNOWN);
        D.due("14 unknown", x.story(-1), StoryColumns.UNKNOWN);
    }

    private static void takenByRefusals() {
        StoryColumns x = new StoryColumns();
        x.block(0, 0, 0, 0, 0, 0);
        x.block(0, 2, 0, 0, 1, 1);
        D.due("15 head", x.takenBy(0), StoryColumns.STATE);
        D.due("15 picture", x.takenBy(1), StoryColumns.STATE);
        D.due("15 unknown", x.takenBy(2), StoryColumns.UNKNOWN);
        D.due("15 unknown", x.takenBy(-1), StoryColumns.UNKNOWN);
    }

    private static void ofStory() {
        StoryColumns x = new StoryColumns();
        x.block(0, 0, 0, 1, 0, 0);
        x.block(0, 1, 0, 0, 1, 9);
        x.block(0, 1, 1, 1, 1, 9);
        x.block(0, 1, 2, 2, 9, 9);
        x.block(0, 2, 0, 0, 10, 12);
        x.block(0, 2, 1, 1, 10, 12);
        x.block(0, 2, 3, 3, 10, 12);
        x.block(1, 1, 3, 3, 10, 12);
        x.words(1, 10);
        x.words(2, 20);
        x.words(3, 99);
        x.words(7, 33);
        int[][] want = {{0, 3, 129, 2, 1, NONE, NONE, 0, 0}, {NONE, 1, 33, 0, 0, NONE, NONE, 1, 0}};
        for (int s = 0; s < 2; s++) {
            for (int what = 0; what < 9; what++) {
                D.due("16 ofStory(" + s + ", " + what + ")", x.ofStory(s, what), want[s][what]);
            }
        }
        x.words(1, 11);
        D.due("16 words anew", x.ofStory(0, 2), 130);
        D.due("16 unknown", x.ofStory(2, 0), StoryColumns.UNKNOWN);
        D.due("16 unknown", x.ofStory(-1, 0), StoryColumns.UNKNOWN);
        D.due("16 unknown ahead of outside", x.ofStory(2, 9), StoryColumns.UNKNOWN);
        D.due("16 outside", x.ofStory(0, 9), StoryColumns.OUTSIDE);
        D.due("16 outside", x.ofStory(0, -1), StoryColumns.OUTSIDE);
    }

    private static void text() {
        StoryColumns x = new StoryColumns();
        x.block(0, 0, 0, 7, 0, 0);
        for (int k = 1; k < 24; k++) {
            x.block(0, 1, 7 - k % 8, 7 - k % 8, 1 + k / 8, 1 + k / 8);
        }
        D.due("17 first", x.text(0, 0), 7);
        D.due("17 second", x.text(0, 1), 15);
        D.due("17 last", x.text(0, 22), 16);
        D.due("17 not so many", x.text(0, 23), NONE);
        D.due("17 outside", x.text(0, 24), StoryColumns.OUTSIDE);
        D.due("17 outside", x.text(0, -1), StoryColumns.OUTSIDE);
        D.due("17 unknown", x.text(1, 0), StoryColumns.UNKNOWN);
        D.due("17 unknown ahead of outside", x.text(-1, 24), StoryColumns.UNKNOWN);
    }

    private static void lastRowOfReach() {
        StoryColumns x = new StoryColumns();
        x.block(0, 0, 0, 0, 0, 0);
        x.block(0, 1, 0, 0, 5, 9);
        x.block(0, 2, 0, 0, 29, 29);
        D.due("13 in the last row of the page", x.under(2), 0);
        x.line(0, 1, 6, 0, 0);
        D.due("13 in the last row, the line lies in it", x.under(1), 0);
        x.line(0, 1, 5, 0, 0);
        D.due("13 below the last row", x.under(1), NONE);
    }

    /** What the others do as later blocks, block 0 does here. */
    private static void firstBlockCounts() {
        StoryColumns x = new StoryColumns();
        x.block(0, 1, 1, 1, 1, 9);
        x.block(0, 1, 0, 0, 1, 9);
        x.block(0, 0, 0, 0, 0, 0);
        D.due("15 text 0 is taken", x.takenBy(0), 1);
        D.due("23 joined", x.many(5), 1);
        D.due("16 joined", x.ofStory(0, 4), 1);
        x.turn();
        D.due("15 no more", x.takenBy(0), NONE);
        x.clear();
        x.block(0, 1, 0, 0, 1, 9);
        x.block(0, 1, 1, 1, 1, 9);
        x.block(0, 0, 0, 0, 0, 0);
        D.due("15 text 0 takes", x.takenBy(1), 0);
        x.clear();
        x.block(0, 2, 0, 0, 1, 9);
        D.due("23 picture 0 under none", x.many(11), 1);
        x.block(0, 0, 0, 0, 0, 0);
        D.due("23 picture 0 under a head", x.many(11), 0);
        D.due("16 pictures", x.ofStory(0, 3), 1);
    }

    private static void asItIsWhenAsked() {
        StoryColumns x = new StoryColumns();
        x.block(0, 1, 0, 0, 1, 9);
        D.due("left over", x.story(0), 0);
        D.due("left over", x.many(6), 1);
        x.block(0, 0, 0, 0, 0, 0);
        D.due("a head came", x.under(0), 1);
        x.line(0, 1, 1, 0, 0);
        D.due("a line came", x.under(0), NONE);
        D.due("two stories", x.many(4), 2);
        x.erase();
        D.due("it went", x.under(0), 1);
        D.due("one story", x.many(4), 1);
        x.turn();
        D.due("turned", x.under(0), 1);
        x.back();
        D.due("the head went", x.under(0), NONE);
        D.due("left over", x.many(6), 1);
        D.due("a story", x.ofStory(0, 0), NONE);
        x.clear();
        D.due("no story", x.ofStory(0, 0), StoryColumns.UNKNOWN);
        D.due("no article", x.ofArticle(0, 0), StoryColumns.UNKNOWN);
        D.due("no article", x.many(7), 0);
    }
}
