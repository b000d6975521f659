/** Promises 1 to 11: each sentence that names a boundary case, as a run of its own. */
public final class PageEdgesTest {
    private static final Due D = new Due();

    public static void main(String[] args) {
        newObject();
        blockNumbers();
        blockInCommon();
        blockFull();
        words();
        lineNumbers();
        lineFull();
        backAndErase();
        clear();
        turn();
        ofBlockAndOfLine();
        at();
        D.end();
    }

    private static void run(String sentence, String rows) {
        Runs.run(D, sentence, rows);
    }

    private static void newObject() {
        run("1 no BLOCKS, no LINES: nothing is counted", "many 0..11 = 0");
        run("1 no BLOCKS: no number is one", """
            ofBlock MIN|-1|0|1|23|24|MAX 0 = UNKNOWN
            words 0 1 = UNKNOWN; reach 0 0 = UNKNOWN; under 0 = UNKNOWN; story 0 = UNKNOWN; takenBy 0 = UNKNOWN
            mark 0 0..1 0 0 = UNKNOWN; unmark 0 0..1 = UNKNOWN; ofMark 0 0..1 0..1 = UNKNOWN
            """);
        run("1 no LINES: no number is one", "ofLine MIN|-1|0|1|11|12|MAX 0 = UNKNOWN");
        run("1 no BLOCKS: no STORIES, no ARTICLES", """
            ofStory 0 0..8 = UNKNOWN; text 0 0 = UNKNOWN; ofArticle 0 0..6 = UNKNOWN; read 0 0 = UNKNOWN
            """);
        run("1 no BLOCKS: every corner is free", "at 0..3 0|7 0|29 = NONE");
        run("1 nothing to take away", "back = STATE; erase = STATE; clear = 0; turn = 0");
    }

    private static void blockNumbers() {
        run("2 PAGES 0 .. 3", "block MIN|-1|4|MAX 1 0 0 0 0 = OUTSIDE; many 0 = 0; block 0..3 1 0 0 0 0; many 0 = 4");
        run("2 KINDS 0 .. 2", """
            block 0 MIN|-1|3|MAX 0 0 0 0 = OUTSIDE
            block 0 0 0 0 0 0 = 0; block 0 1 1 1 0 0 = 1; block 0 2 2 2 0 0 = 2; ofBlock * 1 = 0 1 2
            """);
        run("2 COLUMNS 0 .. 7, the first", """
            block 0 1 MIN|-1 0 0 0 = OUTSIDE; block 0 1 MIN|-1 MIN|-1 0 0 = OUTSIDE; block 0 1 0 0 0 0 = 0
            """);
        run("2 COLUMNS 0 .. 7, the last", """
            block 0 1 7 8|MAX 0 0 = OUTSIDE; block 0 1 8|MAX 8|MAX 0 0 = OUTSIDE; block 0 1 7 7 0 0 = 0
            """);
        run("2 a not above b", """
            block 0 1 1 0 0 0 = OUTSIDE; block 0 1 7 6 0 0 = OUTSIDE; block 0 1 7 0 0 0 = OUTSIDE
            block 0 1 MAX MIN 0 0 = OUTSIDE; block 0 1 MIN MAX 0 0 = OUTSIDE
            block 0 1 1 1 0 0 = 0; block 0 1 6 7 0 0 = 1
            """);
        run("2 ROWS 0 .. 29, the first", """
            block 0 1 0 0 MIN|-1 0 = OUTSIDE; block 0 1 0 0 MIN|-1 MIN|-1 = OUTSIDE; block 0 1 0 0 0 0 = 0
            """);
        run("2 ROWS 0 .. 29, the last", """
            block 0 1 0 0 29 30|MAX = OUTSIDE; block 0 1 0 0 30|MAX 30|MAX = OUTSIDE; block 0 1 0 0 29 29 = 0
            """);
        run("2 t not above u", """
            block 0 1 0 0 1 0 = OUTSIDE; block 0 1 0 0 29 28 = OUTSIDE; block 0 1 0 0 29 0 = OUTSIDE
            block 0 1 0 0 MAX MIN = OUTSIDE; block 0 1 0 0 MIN MAX = OUTSIDE
            block 0 1 0 0 1 1 = 0; block 0 1 0 0 28 29 = 1
            """);
        run("2 a whole PAGE", """
            block 0..3 1 0 7 0 29; ofBlock 0..3 2 = 0; ofBlock 0..3 3 = 7; ofBlock 0..3 4 = 0; ofBlock 0..3 5 = 29
            """);
        run("2 numbered from 0 on as they came", """
            block 3 2 7 7 29 29 = 0; block 0 0 0 0 0 0 = 1; block 1 1 3 3 3 3 = 2; ofBlock * 0 = 3 0 1
            """);
    }

    private static void blockInCommon() {
        String one = "block 1 1 2 4 10 12 = 0\n";
        run("2 a COLUMN and a ROW in common: each corner", one + """
            block 1 0 0 2 0 10 = STATE; block 1 0 4 7 0 10 = STATE
            block 1 0 0 2 12 29 = STATE; block 1 0 4 7 12 29 = STATE; many 0 = 1
            """);
        run("2 a COLUMN and a ROW in common: in it, around it, the same, across it", one + """
            block 1 2 3 3 11 11 = STATE; block 1 2 0 7 0 29 = STATE; block 1 2 2 4 10 12 = STATE
            block 1 2 3 3 0 29 = STATE; block 1 2 0 7 11 11 = STATE; many 0 = 1
            """);
        run("2 in common both: a COLUMN alone is not", one + """
            block 1 1 2 4 0 9 = 1; block 1 1 2 4 13 29 = 2
            """);
        run("2 in common both: a ROW alone is not", one + """
            block 1 1 0 1 10 12 = 1; block 1 1 5 7 10 12 = 2
            """);
        run("2 in common both: neither, corner at corner", one + """
            block 1 1 1 1 9 9 = 1; block 1 1 5 5 9 9 = 2; block 1 1 1 1 13 13 = 3; block 1 1 5 5 13 13 = 4
            """);
        run("2 on its PAGE: another PAGE is free", one + "block 0 1 2 4 10 12 = 1; block 2..3 1 2 4 10 12");
        run("2 whatever KINDS they are", """
            block 0 0 0 0 0 0; block 0 1 1 1 0 0; block 0 2 2 2 0 0; block 0 0..2 0|1|2 2 0 0 = STATE
            """);
        run("2 with a later one, not the first alone", """
            block 0 1 0 0 0 0; block 0 1 7 7 29 29; block 0 1 7 7 29 29 = STATE; block 0 1 0 0 0 0 = STATE
            """);
        run("2 LINES are in no one's way", "line 0 0 1 0 29; line 0 1 1 0 7; block 0 1 0 7 0 29 = 0");
    }

    private static String blocks(int many) {
        StringBuilder rows = new StringBuilder();
        for (int k = 0; k < many; k++) {
            rows.append("block 0 1 ").append(k % 8).append(' ').append(k % 8).append(' ').append(k / 8);
            rows.append(' ').append(k / 8).append(" = ").append(k).append('\n');
        }
        return rows.toString();
    }

    private static void blockFull() {
        run("2 24 at most: the last that comes", blocks(24) + "many 0 = 24; ofBlock 23 0 = 0; ofBlock 24 0 = UNKNOWN");
        run("2 24 at most: the first that does not, on any PAGE", blocks(24) + """
            block 0..3 0..2 0 0 29 29 = FULL; many 0 = 24; at 0..3 0 29 = NONE
            """);
        run("2 OUTSIDE, then STATE, then FULL", blocks(24) + """
            block 4 1 0 0 29 29 = OUTSIDE; block 0 3 0 0 0 0 = OUTSIDE; block 0 1 0 8 0 0 = OUTSIDE
            block 0 1 0 0 0 30 = OUTSIDE; block 0 1 0 0 0 0 = STATE; block 0 1 7 7 2 2 = STATE
            """);
        run("2 room again after back, for one", blocks(24) + """
            back = 23; block 3 0 0 0 0 0 = 23; block 3 0 1 1 0 0 = FULL
            """);
        run("2 room again after clear, for all", blocks(24) + "clear = 24\n" + blocks(24) + "block 3 0 0 0 0 0 = FULL");
    }

    private static void words() {
        String three = "block 0 0 0 0 0 0; block 0 1 0 0 1 1; block 0 2 0 0 2 2\n";
        run("3 1 at first", three + "ofBlock 1 6 = 1; words 1 99 = 1");
        run("3 1 .. 99: below", three + "words 1 50 = 1; words 1 MIN|-1|0 = OUTSIDE; words 1 1 = 50; ofBlock 1 6 = 1");
        run("3 1 .. 99: above", three + "words 1 50 = 1; words 1 100|MAX = OUTSIDE; words 1 99 = 50; ofBlock 1 6 = 99");
        run("3 what they were", three + "words 1 7 = 1; words 1 7 = 7; words 1 8 = 7; words 1 1 = 8");
        run("3 STATE: it is no TEXT", three + "words 0|2 1|99 = STATE; ofBlock 0|2 6 = NONE; ofBlock 1 6 = 1");
        run("3 OUTSIDE, then STATE", three + "words 0|2 0|100 = OUTSIDE");
        run("3 UNKNOWN, then OUTSIDE", three + "words MIN|-1|3|24|MAX 0|1|99|100 = UNKNOWN");
        run("3 a new TEXT begins with 1", three + "back; words 1 9; back; block 0 1 0 0 1 1; ofBlock 1 6 = 1");
        run("3 of one TEXT alone", three + """
            block 0 1 1 1 1 1 = 3; words 1 9; ofBlock 3 6 = 1; words 3 8 = 1; ofBlock 1 6 = 9
            """);
    }

    private static void lineNumbers() {
        run("4 PAGES 0 .. 3", "line MIN|-1|4|MAX 0..1 1 0 0 = OUTSIDE; many 1 = 0; line 0..3 0 1 0 0; many 1 = 4");
        run("4 how 0, 1", """
            line 0 MIN|-1|2|MAX 1 0 0 = OUTSIDE; line 0 0 1 0 0 = 0; line 0 1 1 0 0 = 1; ofLine * 1 = 0 1
            """);
        run("4 UPRIGHT at x 1 .. 7", """
            line 0 0 MIN|-1|0 0 0 = OUTSIDE; line 0 0 8|9|29|MAX 0 0 = OUTSIDE
            line 0 0 1 0 0 = 0; line 0 0 7 0 0 = 1; ofLine * 2 = 1 7
            """);
        run("4 FLAT at y 1 .. 29", """
            line 0 1 MIN|-1|0 0 0 = OUTSIDE; line 0 1 30|MAX 0 0 = OUTSIDE
            line 0 1 1 0 0 = 0; line 0 1 8 0 0 = 1; line 0 1 29 0 0 = 2; ofLine * 2 = 1 8 29
            """);
        run("4 UPRIGHT in ROWS 0 .. 29", """
            line 0 0 1 MIN|-1 0 = OUTSIDE; line 0 0 1 MIN|-1 MIN|-1 = OUTSIDE
            line 0 0 1 29 30|MAX = OUTSIDE; line 0 0 1 30|MAX 30|MAX = OUTSIDE; line 0 0 1 MIN MAX = OUTSIDE
            line 0 0 1 0 0 = 0; line 0 0 1 29 29 = 1; line 0 0 1 0 29 = 2
            """);
        run("4 FLAT in COLUMNS 0 .. 7", """
            line 0 1 1 MIN|-1 0 = OUTSIDE; line 0 1 1 MIN|-1 MIN|-1 = OUTSIDE
            line 0 1 1 7 8|29|MAX = OUTSIDE; line 0 1 1 8|29|MAX 29|MAX = OUTSIDE; line 0 1 1 MIN MAX = OUTSIDE
            line 0 1 1 0 0 = 0; line 0 1 1 7 7 = 1; line 0 1 1 0 7 = 2
            """);
        run("4 from not above until", """
            line 0 0..1 1 1 0 = OUTSIDE; line 0 0 1 29 28 = OUTSIDE; line 0 1 1 7 6 = OUTSIDE
            line 0 0..1 1 MAX MIN = OUTSIDE; line 0 0..1 1 1 1; many 1 = 2
            """);
        run("4 numbered from 0 on as they came", """
            line 2 1 5 0 0 = 0; line 0 0 3 0 0 = 1; line 1 1 2 0 0 = 2; ofLine * 0 = 2 0 1
            """);
        run("4 they may lie in BLOCKS, across one another, one on another", """
            block 0 1 0 7 0 29; line 0 0 4 0 29 = 0; line 0 1 15 0 7 = 1; line 0 0 4 0 29 = 2; line 0 1 15 3 4 = 3
            """);
    }

    private static String lines(int many) {
        StringBuilder rows = new StringBuilder();
        for (int k = 0; k < many; k++) {
            rows.append("line ").append(k % 4).append(' ').append(k % 2).append(" 3 1 5 = ").append(k).append('\n');
        }
        return rows.toString();
    }

    private static void lineFull() {
        run("4 12 at most: the last that comes", lines(12) + "many 1 = 12; ofLine 11 0 = 3; ofLine 12 0 = UNKNOWN");
        run("4 12 at most: the first that does not, on any PAGE", lines(12) + """
            line 0..3 0..1 1 0 0 = FULL; many 1 = 12
            """);
        run("4 OUTSIDE, then FULL", lines(12) + """
            line 4 0 1 0 0 = OUTSIDE; line 0 2 1 0 0 = OUTSIDE; line 0 0 8 0 0 = OUTSIDE; line 0 1 0 0 0 = OUTSIDE
            line 0 0 1 0 30 = OUTSIDE; line 0 1 1 0 8 = OUTSIDE; line 0 0 1 1 0 = OUTSIDE
            """);
        run("4 room again after erase, for one", lines(12) + "erase = 11; line 0 0 1 0 0 = 11; line 0 0 1 0 0 = FULL");
        run("4 room again after clear, for all", lines(12) + "clear = 0\n" + lines(12) + "line 0 0 1 0 0 = FULL");
        run("2 a full row of LINES leaves room for BLOCKS", lines(12) + blocks(24));
        run("4 a full row of BLOCKS leaves room for LINES", blocks(24) + lines(12));
    }

    private static void backAndErase() {
        run("5 STATE: there is none, though there are LINES", """
            line 0 0 1 0 0; back = STATE; many 1 = 1; ofLine 0 2 = 1
            """);
        run("5 the last one left", "block 0 1 0 0 0 0; back = 0; back = STATE; many 0 = 0; at 0 0 0 = NONE");
        run("5 how many are left", blocks(24) + """
            back = 23; back = 22; many 0 = 22; ofBlock 21 0 = 0; ofBlock 22 0 = UNKNOWN
            """);
        run("5 the last BLOCK, not another", """
            block 0 1 0 0 0 0; block 0 1 1 1 0 0; back = 1; at 0 0 0 = 0; at 0 1 0 = NONE
            """);
        run("5 its place is free then, its number too", """
            block 0 1 0 0 0 0; block 0 1 0 0 0 0 = STATE; back = 0; block 0 2 0 0 0 0 = 0; ofBlock 0 1 = 2
            """);
        run("5 LINES stay", "block 0 1 0 0 0 0; line 0 0 1 0 0; back = 0; many 1 = 1; line 0 0 1 0 0 = 1");
        run("5 its marks go with it", """
            block 0 1 0 0 0 0; mark 0 0 0 0 = 0; mark 0 1 0 0 = 0; back = 0; block 0 1 0 0 0 0 = 0
            ofMark 0 0..1 0..1 = NONE; mark 0 0 1 1 = 0; mark 0 1 1 1 = 0
            """);
        run("6 STATE: there is none, though there are BLOCKS", """
            block 0 1 0 0 0 0; erase = STATE; many 0 = 1; at 0 0 0 = 0
            """);
        run("6 the last one left", "line 0 0 1 0 0; erase = 0; erase = STATE; many 1 = 0");
        run("6 how many are left", lines(12) + """
            erase = 11; erase = 10; many 1 = 10; ofLine 9 0 = 1; ofLine 10 0 = UNKNOWN
            """);
        run("6 the last LINE, not another", """
            line 0 0 1 0 0; line 0 0 2 0 0; erase = 1; ofLine 0 2 = 1; line 0 1 3 0 0 = 1
            """);
        run("6 BLOCKS stay", "block 0 1 0 0 0 0; line 0 0 1 0 0; erase = 0; many 0 = 1; block 0 1 1 1 0 0 = 1");
    }

    private static void clear() {
        run("7 how many BLOCKS there were: none", "clear = 0; line 0 0 1 0 0; clear = 0; many 1 = 0; erase = STATE");
        run("7 how many BLOCKS there were: all, LINES are not counted", blocks(24) + lines(12) + """
            clear = 24; many 0..11 = 0; clear = 0; back = STATE; erase = STATE
            """);
        run("7 numbered from 0 on again", blocks(3) + lines(2) + """
            clear = 3; block 0 1 0 0 0 0 = 0; line 0 0 1 0 0 = 0
            """);
        run("7 no marks on those that come then", """
            block 0 1 0 0 0 0; mark 0 0..1 3 9 = 0; clear = 1; block 0 1 0 0 0 0; ofMark 0 0..1 0..1 = NONE; many 9 = 0; many 10 = 0
            """);
    }

    private static void turn() {
        run("8 in other COLUMNS: from end to end none is", """
            block 0 1 0 7 0 0; turn = 0; ofBlock 0 2 = 0; ofBlock 0 3 = 7
            """);
        run("8 in other COLUMNS: in the middle none is", """
            block 0 1 3 4 0 0; block 0 1 2 5 1 1; block 0 1 1 6 2 2; turn = 0
            """);
        run("8 in other COLUMNS: one step off the middle", """
            block 0 1 2 4 0 0; block 0 1 3 3 1 1; turn = 2; ofBlock * 2 = 3 4; ofBlock * 3 = 5 4
            """);
        run("8 in other COLUMNS: first and last", """
            block 0 1 0 0 0 0; block 0 1 7 7 1 1; block 0 1 0 6 2 2; turn = 3
            ofBlock * 2 = 7 0 1; ofBlock * 3 = 7 0 7
            """);
        run("8 all PAGES, all BLOCKS", """
            block 0..3 0 0 0 0 0; turn = 4; at 0..3 0 0 = NONE; at * 7 0 = 0 1 2 3
            """);
        run("8 24 of them", blocks(24) + "turn = 24; at 0 7 0 = 0; at 0 0 2 = 23");
        run("8 none of them", "line 0 0 1 0 0; turn = 0; ofLine 0 2 = 7");
        run("8 UPRIGHT LINES at 8 - x", """
            line 0 0 1 0 29; line 1 0 4 2 3; line 2 0 7 5 5; turn = 0
            ofLine * 2 = 7 4 1; ofLine * 3 = 0 2 5; ofLine * 4 = 29 3 5; ofLine * 0 = 0 1 2
            """);
        run("8 FLAT LINES in COLUMNS 7 - b to 7 - a", """
            line 0 1 1 0 0; line 1 1 29 0 7; line 2 1 5 3 7; line 3 1 6 3 4; turn = 0
            ofLine * 2 = 1 29 5 6; ofLine * 3 = 7 0 0 3; ofLine * 4 = 7 7 4 4
            """);
        run("8 ROWS, PAGES, KINDS, WORDS and marks stay", """
            block 2 1 0 1 3 9; words 0 42; mark 0 0 3 7; mark 0 1 1 8; turn = 1
            ofBlock 0 * = 2 1 6 7 3 9 42; ofMark 0 0 * = 3 7; ofMark 0 1 * = 1 8
            """);
        run("8 twice is as before", """
            block 0 1 0 2 0 0; line 0 0 3 0 9; line 0 1 3 0 4; turn = 1; turn = 1
            ofBlock 0 * = 0 1 0 2 0 0 1; ofLine 0 * = 0 0 3 0 9; ofLine 1 * = 0 1 3 0 4
            """);
    }

    private static void ofBlockAndOfLine() {
        String three = "block 3 0 1 2 4 5; block 2 1 6 7 28 29; block 1 2 0 7 0 29\n";
        run("9 0 its PAGE .. 6 WORDS", three + """
            ofBlock 0 * = 3 0 1 2 4 5 -; ofBlock 1 * = 2 1 6 7 28 29 1; ofBlock 2 * = 1 2 0 7 0 29 -
            """);
        run("9 OUTSIDE: what", three + "ofBlock 0..2 MIN|-1|7|MAX = OUTSIDE");
        run("9 UNKNOWN: k", three + "ofBlock MIN|-1|3|24|MAX 0..6 = UNKNOWN");
        run("9 UNKNOWN, then OUTSIDE", three + "ofBlock MIN|-1|3|24|MAX MIN|-1|7|MAX = UNKNOWN");
        String two = "line 3 0 7 2 28; line 2 1 29 1 6\n";
        run("10 0 its PAGE .. 4 until", two + "ofLine 0 * = 3 0 7 2 28; ofLine 1 * = 2 1 29 1 6");
        run("10 OUTSIDE: what", two + "ofLine 0..1 MIN|-1|5|MAX = OUTSIDE");
        run("10 UNKNOWN: k", two + "ofLine MIN|-1|2|12|MAX 0..4 = UNKNOWN");
        run("10 UNKNOWN, then OUTSIDE", two + "ofLine MIN|-1|2|12|MAX MIN|-1|5|MAX = UNKNOWN");
        run("10 a BLOCK's number is no LINE's", "block 0 1 0 0 0 0; ofLine 0 0 = UNKNOWN");
        run("9 a LINE's number is no BLOCK's", "line 0 0 1 0 0; ofBlock 0 0 = UNKNOWN");
    }

    private static void at() {
        run("11 OUTSIDE: page", "at MIN|-1|4|MAX 0 0 = OUTSIDE; at 0|3 0 0 = NONE");
        run("11 OUTSIDE: column", "at 0 MIN|-1|8|MAX 0 = OUTSIDE; at 0 0|7 0 = NONE");
        run("11 OUTSIDE: row", "at 0 0 MIN|-1|30|MAX = OUTSIDE; at 0 0 0|29 = NONE");
        run("11 its own corners, and one step off them", """
            block 1 2 2 4 10 12; at 1 2|4 10|12 = 0; at 1 1|5 10|12 = NONE; at 1 2|4 9|13 = NONE; at 0|2 2|4 10|12 = NONE
            """);
        run("11 the corners of a PAGE", """
            block 0 0 0 0 0 0; block 0 1 7 7 0 0; block 0 2 0 0 29 29; block 0 1 7 7 29 29
            at 0 0 0 = 0; at 0 7 0 = 1; at 0 0 29 = 2; at 0 7 29 = 3
            """);
        run("11 a LINE is no BLOCK", "line 0 0 1 0 29; line 0 1 1 0 7; at 0 0..1 0..1 = NONE");
    }
}
