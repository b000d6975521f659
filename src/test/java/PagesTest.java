/** Promises 1 to 11: blocks and lines on pages. */
public final class PagesTest {
    private static final Due D = new Due();
    private static final int LOW = Integer.MIN_VALUE, HIGH = Integer.MAX_VALUE;

    public static void main(String[] args) {
        newObject();
        blockOutside();
        blockState();
        blockFull();
        words();
        lineOutside();
        lineFull();
        back();
        erase();
        clear();
        turn();
        ofBlock();
        ofLine();
        at();
        D.end();
    }

    private static int[] block(StoryColumns x, int k) {
        int[] all = new int[7];
        for (int what = 0; what < 7; what++) {
            all[what] = x.ofBlock(k, what);
        }
        return all;
    }

    private static int[] line(StoryColumns x, int k) {
        int[] all = new int[5];
        for (int what = 0; what < 5; what++) {
            all[what] = x.ofLine(k, what);
        }
        return all;
    }

    private static void newObject() {
        StoryColumns x = new StoryColumns();
        for (int what = 0; what < 12; what++) {
            D.due("1 many(" + what + ")", x.many(what), 0);
        }
        D.due("1 ofBlock", x.ofBlock(0, 0), StoryColumns.UNKNOWN);
        D.due("1 ofLine", x.ofLine(0, 0), StoryColumns.UNKNOWN);
        D.due("1 at", x.at(0, 0, 0), StoryColumns.NONE);
    }

    private static void blockOutside() {
        StoryColumns x = new StoryColumns();
        int[][] wrong = {
            {-1, 0, 0, 0, 0, 0}, {4, 0, 0, 0, 0, 0}, {0, -1, 0, 0, 0, 0}, {0, 3, 0, 0, 0, 0},
            {0, 0, -1, 0, 0, 0}, {0, 0, 0, 8, 0, 0}, {0, 0, 3, 2, 0, 0}, {0, 0, 8, 8, 0, 0},
            {0, 0, 0, 0, -1, 0}, {0, 0, 0, 0, 0, 30}, {0, 0, 0, 0, 5, 4}, {0, 0, 0, 0, 30, 30},
            {LOW, 0, 0, 0, 0, 0}, {HIGH, 0, 0, 0, 0, 0}, {0, LOW, 0, 0, 0, 0}, {0, HIGH, 0, 0, 0, 0},
            {0, 0, LOW, HIGH, 0, 0}, {0, 0, 0, 0, LOW, HIGH}, {0, 0, HIGH, LOW, 0, 0}};
        for (int[] w : wrong) {
            D.due("2 block outside", x.block(w[0], w[1], w[2], w[3], w[4], w[5]), StoryColumns.OUTSIDE);
        }
        D.due("2 refusals change nothing", x.many(0), 0);
        D.due("2 whole page", x.block(0, 0, 0, 7, 0, 29), 0);
        D.due("2 last cell of the last page", x.block(3, 2, 7, 7, 29, 29), 1);
        D.due("2 outside ahead of state", x.block(0, 3, 0, 0, 0, 0), StoryColumns.OUTSIDE);
    }

    private static void blockState() {
        StoryColumns x = new StoryColumns();
        D.due("2 block", x.block(1, 1, 2, 4, 10, 12), 0);
        int[][] meeting = {{2, 4, 10, 12}, {0, 2, 0, 10}, {4, 7, 12, 29}, {3, 3, 11, 11}, {0, 7, 0, 29},
            {0, 2, 12, 20}, {4, 4, 0, 10}};
        for (int[] m : meeting) {
            D.due("2 meets", x.block(1, 0, m[0], m[1], m[2], m[3]), StoryColumns.STATE);
        }
        D.due("2 still one", x.many(0), 1);
        D.due("2 other page", x.block(2, 0, 2, 4, 10, 12), 1);
        D.due("2 left of it", x.block(1, 0, 0, 1, 10, 12), 2);
        D.due("2 right of it", x.block(1, 0, 5, 7, 10, 12), 3);
        D.due("2 above it", x.block(1, 0, 2, 4, 0, 9), 4);
        D.due("2 below it", x.block(1, 0, 2, 4, 13, 29), 5);
    }

    private static void blockFull() {
        StoryColumns x = new StoryColumns();
        for (int k = 0; k < 24; k++) {
            D.due("2 block " + k, x.block(0, k % 3, k % 8, k % 8, k / 8, k / 8), k);
        }
        D.due("2 full", x.block(0, 0, 0, 0, 10, 10), StoryColumns.FULL);
        D.due("2 state ahead of full", x.block(0, 0, 0, 0, 0, 0), StoryColumns.STATE);
        D.due("2 outside ahead of full", x.block(4, 0, 0, 0, 10, 10), StoryColumns.OUTSIDE);
        D.due("2 many", x.many(0), 24);
        D.due("2 back", x.back(), 23);
        D.due("2 room again", x.block(0, 0, 0, 0, 10, 10), 23);
    }

    private static void words() {
        StoryColumns x = new StoryColumns();
        x.block(0, 0, 0, 0, 0, 0);
        x.block(0, 1, 0, 0, 1, 1);
        x.block(0, 2, 0, 0, 2, 2);
        D.due("3 first", x.words(1, 99), 1);
        D.due("3 then", x.words(1, 1), 99);
        D.due("3 then", x.words(1, 50), 1);
        D.due("3 low", x.words(1, 0), StoryColumns.OUTSIDE);
        D.due("3 high", x.words(1, 100), StoryColumns.OUTSIDE);
        D.due("3 head", x.words(0, 5), StoryColumns.STATE);
        D.due("3 picture", x.words(2, 5), StoryColumns.STATE);
        D.due("3 outside ahead of state", x.words(0, 0), StoryColumns.OUTSIDE);
        D.due("3 unknown ahead of outside", x.words(3, 0), StoryColumns.UNKNOWN);
        D.due("3 unknown", x.words(-1, 1), StoryColumns.UNKNOWN);
        D.due("3 kept", x.ofBlock(1, 6), 50);
        x.back();
        x.back();
        x.block(0, 1, 0, 0, 1, 1);
        D.due("3 anew", x.ofBlock(1, 6), 1);
    }

    private static void lineOutside() {
        StoryColumns x = new StoryColumns();
        int[][] wrong = {
            {-1, 0, 1, 0, 0}, {4, 0, 1, 0, 0}, {0, -1, 1, 0, 0}, {0, 2, 1, 0, 0},
            {0, 0, 0, 0, 0}, {0, 0, 8, 0, 0}, {0, 0, 1, -1, 0}, {0, 0, 1, 0, 30}, {0, 0, 1, 4, 3},
            {0, 1, 0, 0, 0}, {0, 1, 30, 0, 0}, {0, 1, 1, -1, 0}, {0, 1, 1, 0, 8}, {0, 1, 1, 4, 3},
            {0, 0, HIGH, 0, 0}, {0, 0, LOW, 0, 0}, {0, 0, 1, LOW, HIGH}, {0, HIGH, 1, 0, 0}};
        for (int[] w : wrong) {
            D.due("4 line outside", x.line(w[0], w[1], w[2], w[3], w[4]), StoryColumns.OUTSIDE);
        }
        D.due("4 none came", x.many(1), 0);
        D.due("4 upright", x.line(0, 0, 7, 0, 29), 0);
        D.due("4 flat", x.line(3, 1, 29, 0, 7), 1);
        D.due("4 the same again", x.line(0, 0, 7, 0, 29), 2);
        D.due("4 least", x.line(0, 0, 1, 29, 29), 3);
        D.due("4 least", x.line(0, 1, 1, 7, 7), 4);
    }

    private static void lineFull() {
        StoryColumns x = new StoryColumns();
        for (int k = 0; k < 12; k++) {
            D.due("4 line " + k, x.line(k % 4, k % 2, 3, 1, 5), k);
        }
        D.due("4 full", x.line(0, 0, 1, 0, 0), StoryColumns.FULL);
        D.due("4 outside ahead of full", x.line(0, 0, 0, 0, 0), StoryColumns.OUTSIDE);
        D.due("4 erase", x.erase(), 11);
        D.due("4 room again", x.line(0, 0, 1, 0, 0), 11);
        D.row("4 new line", line(x, 11), 0, 0, 1, 0, 0);
    }

    private static void back() {
        StoryColumns x = new StoryColumns();
        D.due("5 none", x.back(), StoryColumns.STATE);
        x.block(0, 1, 0, 0, 0, 0);
        x.block(0, 1, 1, 1, 0, 0);
        x.mark(1, 0, 1, 1);
        x.mark(1, 1, 1, 1);
        D.due("5 one left", x.back(), 1);
        D.due("5 gone", x.ofBlock(1, 0), StoryColumns.UNKNOWN);
        D.due("5 its place is free", x.at(0, 1, 0), StoryColumns.NONE);
        D.due("5 marks from gone", x.many(10), 0);
        x.block(0, 1, 1, 1, 0, 0);
        D.due("5 marks do not come again", x.ofMark(1, 0, 0), StoryColumns.NONE);
        D.due("5 marks do not come again", x.ofMark(1, 1, 1), StoryColumns.NONE);
        D.due("5 one left", x.back(), 1);
        D.due("5 none left", x.back(), 0);
        D.due("5 none", x.back(), StoryColumns.STATE);
    }

    private static void erase() {
        StoryColumns x = new StoryColumns();
        D.due("6 none", x.erase(), StoryColumns.STATE);
        x.block(0, 0, 0, 0, 0, 0);
        x.line(0, 1, 5, 0, 7);
        x.line(0, 1, 3, 0, 7);
        D.due("6 reach", x.reach(0, 0), 2);
        D.due("6 one left", x.erase(), 1);
        D.due("6 gone", x.ofLine(1, 0), StoryColumns.UNKNOWN);
        D.due("6 reach", x.reach(0, 0), 4);
        D.due("6 none left", x.erase(), 0);
        D.due("6 reach", x.reach(0, 0), 29);
        D.due("6 none", x.erase(), StoryColumns.STATE);
        D.due("6 blocks stay", x.many(0), 1);
    }

    private static void clear() {
        StoryColumns x = new StoryColumns();
        D.due("7 none", x.clear(), 0);
        x.block(0, 1, 0, 0, 0, 0);
        x.block(0, 1, 1, 1, 0, 0);
        x.line(0, 1, 5, 0, 7);
        x.mark(0, 0, 2, 2);
        D.due("7 two", x.clear(), 2);
        for (int what = 0; what < 12; what++) {
            D.due("7 many(" + what + ")", x.many(what), 0);
        }
        D.due("7 lines", x.erase(), StoryColumns.STATE);
        D.due("7 from 0 on", x.block(0, 1, 0, 0, 0, 0), 0);
        D.due("7 no mark", x.ofMark(0, 0, 0), StoryColumns.NONE);
        D.due("7 from 0 on", x.line(0, 1, 5, 0, 7), 0);
    }

    private static void turn() {
        StoryColumns x = new StoryColumns();
        D.due("8 none", x.turn(), 0);
        x.block(0, 0, 0, 2, 0, 0);
        x.block(1, 1, 3, 4, 5, 6);
        x.block(2, 2, 7, 7, 8, 9);
        x.block(3, 1, 0, 7, 8, 9);
        x.mark(1, 0, 3, 9);
        x.words(1, 7);
        x.line(0, 0, 1, 3, 4);
        x.line(1, 0, 4, 3, 4);
        x.line(2, 1, 6, 0, 2);
        x.line(3, 1, 2, 5, 7);
        D.due("8 two moved", x.turn(), 2);
        D.row("8 block 0", block(x, 0), 0, 0, 5, 7, 0, 0, StoryColumns.NONE);
        D.row("8 block 1", block(x, 1), 1, 1, 3, 4, 5, 6, 7);
        D.row("8 block 2", block(x, 2), 2, 2, 0, 0, 8, 9, StoryColumns.NONE);
        D.row("8 block 3", block(x, 3), 3, 1, 0, 7, 8, 9, 1);
        D.row("8 line 0", line(x, 0), 0, 0, 7, 3, 4);
        D.row("8 line 1", line(x, 1), 1, 0, 4, 3, 4);
        D.row("8 line 2", line(x, 2), 2, 1, 6, 5, 7);
        D.row("8 line 3", line(x, 3), 3, 1, 2, 0, 2);
        D.due("8 mark stays", x.ofMark(1, 0, 1), 9);
        D.due("8 two moved", x.turn(), 2);
        D.row("8 as before", block(x, 0), 0, 0, 0, 2, 0, 0, StoryColumns.NONE);
        D.row("8 as before", line(x, 2), 2, 1, 6, 0, 2);
        turnedStories();
    }

    private static void turnedStories() {
        StoryColumns x = new StoryColumns();
        x.block(0, 0, 0, 0, 0, 0);
        x.block(0, 1, 0, 0, 1, 9);
        x.block(0, 1, 1, 1, 1, 9);
        D.due("8 joined on its right", x.takenBy(2), 1);
        D.due("8 three moved", x.turn(), 3);
        D.due("8 left over on its left", x.takenBy(2), StoryColumns.NONE);
        D.due("8 a story more", x.many(4), 2);
    }

    private static void ofBlock() {
        StoryColumns x = new StoryColumns();
        x.block(3, 0, 1, 2, 4, 5);
        x.block(2, 1, 6, 7, 28, 29);
        x.block(1, 2, 0, 7, 0, 29);
        D.row("9 head", block(x, 0), 3, 0, 1, 2, 4, 5, StoryColumns.NONE);
        D.row("9 text", block(x, 1), 2, 1, 6, 7, 28, 29, 1);
        D.row("9 picture", block(x, 2), 1, 2, 0, 7, 0, 29, StoryColumns.NONE);
        D.due("9 low", x.ofBlock(0, -1), StoryColumns.OUTSIDE);
        D.due("9 high", x.ofBlock(0, 7), StoryColumns.OUTSIDE);
        D.due("9 unknown", x.ofBlock(3, 0), StoryColumns.UNKNOWN);
        D.due("9 unknown", x.ofBlock(-1, 0), StoryColumns.UNKNOWN);
        D.due("9 unknown", x.ofBlock(HIGH, 0), StoryColumns.UNKNOWN);
        D.due("9 unknown ahead of outside", x.ofBlock(3, 7), StoryColumns.UNKNOWN);
    }

    private static void ofLine() {
        StoryColumns x = new StoryColumns();
        x.line(3, 0, 7, 2, 28);
        x.line(2, 1, 29, 1, 6);
        D.row("10 upright", line(x, 0), 3, 0, 7, 2, 28);
        D.row("10 flat", line(x, 1), 2, 1, 29, 1, 6);
        D.due("10 low", x.ofLine(0, -1), StoryColumns.OUTSIDE);
        D.due("10 high", x.ofLine(0, 5), StoryColumns.OUTSIDE);
        D.due("10 unknown", x.ofLine(2, 0), StoryColumns.UNKNOWN);
        D.due("10 unknown", x.ofLine(LOW, 0), StoryColumns.UNKNOWN);
        D.due("10 unknown ahead of outside", x.ofLine(2, 5), StoryColumns.UNKNOWN);
    }

    private static void at() {
        StoryColumns x = new StoryColumns();
        x.block(0, 0, 1, 2, 3, 5);
        x.block(0, 2, 3, 3, 3, 5);
        x.block(1, 1, 1, 1, 3, 3);
        for (int column = 0; column < 8; column++) {
            for (int row = 0; row < 8; row++) {
                boolean down = row >= 3 && row <= 5;
                int want = !down || column == 0 || column > 3 ? StoryColumns.NONE : column < 3 ? 0 : 1;
                D.due("11 at(0, " + column + ", " + row + ")", x.at(0, column, row), want);
            }
        }
        D.due("11 other page", x.at(1, 1, 3), 2);
        D.due("11 other page", x.at(1, 1, 4), StoryColumns.NONE);
        D.due("11 last cell", x.at(3, 7, 29), StoryColumns.NONE);
        int[][] wrong = {{-1, 0, 0}, {4, 0, 0}, {0, -1, 0}, {0, 8, 0}, {0, 0, -1}, {0, 0, 30}};
        for (int[] w : wrong) {
            D.due("11 outside", x.at(w[0], w[1], w[2]), StoryColumns.OUTSIDE);
        }
    }
}
