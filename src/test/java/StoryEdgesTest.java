/** Promises 12 to 17: each sentence that names a boundary case, as a run of its own. */
public final class StoryEdgesTest {
    private static final Due D = new Due();

    public static void main(String[] args) {
        reachNone();
        reachColumns();
        reachToHeads();
        reachToLines();
        reachRefusals();
        underEdges();
        underNone();
        underRefusals();
        order();
        joinedAgainAndAgain();
        takesColumnsAndPages();
        takesRows();
        takesLines();
        takesLeastRow();
        leftOver();
        numbers();
        storyAndTakenBy();
        ofStory();
        text();
        asWhenAsked();
        D.end();
    }

    private static void run(String sentence, String rows) {
        Runs.run(D, sentence, rows);
    }

    private static void reachNone() {
        run("12 if u is 29, none", "block 0 0 2 4 29 29; reach 0 * = - - - - - - - -");
        run("12 if u is 29, none, though it begins above", "block 0 0 0 7 0 29; reach 0 * = - - - - - - - -");
        run("12 if u is 28, one ROW", "block 0 0 2 4 28 28; reach 0 * = - - 29 29 29 - - -");
        run("12 if u is 29, none is UNDER it", """
            block 0 0 0 7 29 29; block 0 1 0 0 28 28; block 0 2 7 7 28 28; under 1..2 = NONE
            """);
        run("12 if u is 28, one may be UNDER it", """
            block 0 0 0 7 28 28; block 0 1 0 0 29 29; block 0 2 7 7 29 29; under 1..2 = 0
            """);
        run("12 the last ROW of the HEAD counts, not the first", """
            block 0 0 0 0 5 9; block 0 1 0 0 10 10; line 0 1 7 0 0; reach 0 0 = 29; under 1 = 0
            """);
    }

    private static void reachColumns() {
        run("12 from a on, to b: at the left end", "block 0 0 0 0 0 0; reach 0 * = 29 - - - - - - -");
        run("12 from a on, to b: at the right end", "block 0 0 7 7 0 0; reach 0 * = - - - - - - - 29");
        run("12 from a on, to b: all", "block 0 0 0 7 0 0; reach 0 * = 29 29 29 29 29 29 29 29");
        String head = "block 0 0 2 5 10 12\n";
        String whole = "reach 0 * = - - 29 29 29 29 - -";
        run("12 x of a + 1 to b: at a it is none", head + "line 0 0 2 13 13\n" + whole);
        run("12 x of a + 1 to b: at a + 1", head + "line 0 0 3 13 13; reach 0 * = - - 29 - - - - -");
        run("12 x of a + 1 to b: at b", head + "line 0 0 5 13 13; reach 0 * = - - 29 29 29 - - -");
        run("12 x of a + 1 to b: at b + 1 it is none", head + "line 0 0 6 13 13\n" + whole);
        run("12 x of a + 1 to b: at 1 and 7 of a HEAD across", """
            block 0 0 0 7 0 0; line 0 0 7 1 1; reach 0 * = 29 29 29 29 29 29 29 -; line 0 0 1 1 1; reach 0 * = 29 - - - - - - -
            """);
        run("12 x of a + 1 to b: a HEAD of one COLUMN has none", """
            block 0 0 3 3 0 0; line 0 0 3 0 29; line 0 0 4 0 29; reach 0 3 = 29
            """);
        run("12 an UPRIGHT LINE has ROW u + 1: ends at u", head + "line 0 0 4 0 12\n" + whole);
        run("12 an UPRIGHT LINE has ROW u + 1: ends at u + 1", head + "line 0 0 4 0 13; reach 0 * = - - 29 29 - - - -");
        run("12 an UPRIGHT LINE has ROW u + 1: begins at u + 1", head + """
            line 0 0 4 13 29; reach 0 * = - - 29 29 - - - -
            """);
        run("12 an UPRIGHT LINE has ROW u + 1: begins at u + 2", head + "line 0 0 4 14 29\n" + whole);
        run("12 an UPRIGHT LINE has ROW u + 1: goes through it", head + """
            line 0 0 4 0 29; reach 0 * = - - 29 29 - - - -
            """);
        run("12 the least x, it came last", head + "line 0 0 5 13 13; line 0 0 4 13 13; reach 0 * = - - 29 29 - - - -");
        run("12 the least x, it came first", head + """
            line 0 0 4 13 13; line 0 0 5 13 13; reach 0 * = - - 29 29 - - - -
            """);
        run("12 all of its PAGE: an UPRIGHT LINE of another", head + "line 1 0 4 0 29; line 2..3 0 4 0 29\n" + whole);
        run("12 a FLAT LINE at that number is no UPRIGHT one", head + "line 0 1 4 0 7\n" + whole);
        run("12 ROW u + 1 at the end of the PAGE", """
            block 0 0 0 1 28 28; line 0 0 1 29 29; reach 0 * = 29 - - - - - - -
            """);
    }

    private static void reachToHeads() {
        String head = "block 0 0 2 5 10 12\n";
        run("12 ahead of a HEAD at u + 1: no ROW", head + "block 0 0 3 3 13 13; reach 0 * = - - 29 - 29 29 - -");
        run("12 ahead of a HEAD at u + 2: one ROW", head + "block 0 0 3 3 14 14; reach 0 * = - - 29 13 29 29 - -");
        run("12 ahead of a HEAD at 29", head + "block 0 0 3 3 29 29; reach 0 * = - - 29 28 29 29 - -");
        run("12 of any HEAD that has COLUMN c: its ends", head + """
            block 0 0 3 4 20 20; reach 0 * = - - 29 19 19 29 - -
            """);
        run("12 of any HEAD that has COLUMN c: beside it", head + """
            block 0 0 0 1 13 13; block 0 0 6 7 13 13; reach 0 * = - - 29 29 29 29 - -
            """);
        run("12 of any HEAD that has COLUMN c: it reaches over both ends", head + """
            block 0 0 0 7 20 20; reach 0 * = - - 19 19 19 19 - -
            """);
        run("12 the first ROW of a HEAD, not the last", head + "block 0 0 3 3 20 25; reach 0 3 = 19");
        run("12 below u: a HEAD above is none", head + """
            block 0 0 2 5 9 9; block 0 0 2 5 0 3; reach 0 * = - - 29 29 29 29 - -
            """);
        run("12 whichever is the least of HEADS, it came last", head + """
            block 0 0 3 3 20 20; block 0 0 3 3 18 18; reach 0 3 = 17
            """);
        run("12 whichever is the least of HEADS, it came first", head + """
            block 0 0 3 3 18 18; block 0 0 3 3 20 20; reach 0 3 = 17
            """);
        run("12 a TEXT or PICTURE below is no HEAD", head + """
            block 0 1 2 3 13 13; block 0 2 4 5 13 13; reach 0 * = - - 29 29 29 29 - -
            """);
        run("12 all of its PAGE: a HEAD of another", head + "block 1..3 0 2 5 13 13; reach 0 * = - - 29 29 29 29 - -");
        run("12 a HEAD that came ahead of it", """
            block 0 0 3 3 20 20; block 0 0 2 5 10 12; reach 1 * = - - 29 19 29 29 - -; reach 0 3 = 29
            """);
    }

    private static void reachToLines() {
        String head = "block 0 0 2 5 10 12\n";
        String whole = "reach 0 * = - - 29 29 29 29 - -";
        run("12 y above u: at u it is none", head + "line 0 1 12 0 7\n" + whole);
        run("12 y above u: u + 1 counts, no ROW", head + "line 0 1 13 0 7; reach 0 * = - - - - - - - -");
        run("12 y above u: at u + 2 one ROW", head + "line 0 1 14 0 7; reach 0 * = - - 13 13 13 13 - -");
        run("12 y above u: at 29", head + "line 0 1 29 0 7; reach 0 * = - - 28 28 28 28 - -");
        run("12 y above u: at 1 of a HEAD in ROW 0", "block 0 0 0 0 0 0; line 0 1 1 0 0; reach 0 0 = NONE");
        run("12 y above u: at 29 of a HEAD in ROW 28", "block 0 0 0 0 28 28; line 0 1 29 0 0; reach 0 0 = NONE");
        run("12 a FLAT LINE has COLUMN c: its ends", head + "line 0 1 20 3 4; reach 0 * = - - 29 19 19 29 - -");
        run("12 a FLAT LINE has COLUMN c: beside it", head + "line 0 1 20 0 1; line 0 1 20 6 7\n" + whole);
        run("12 a FLAT LINE has COLUMN c: at its ends", head + """
            line 0 1 20 0 2; line 0 1 20 5 7; reach 0 * = - - 19 29 29 19 - -
            """);
        run("12 the least y, it came last", head + "line 0 1 20 3 3; line 0 1 18 3 3; reach 0 3 = 17");
        run("12 the least y, it came first", head + "line 0 1 18 3 3; line 0 1 20 3 3; reach 0 3 = 17");
        run("12 the least y above u, not the least of all", head + "line 0 1 5 3 3; line 0 1 18 3 3; reach 0 3 = 17");
        run("12 all of its PAGE: a FLAT LINE of another", head + "line 1..3 1 13 0 7\n" + whole);
        run("12 an UPRIGHT LINE at that number is no FLAT one", "block 0 0 0 0 0 0; line 0 0 5 0 29; reach 0 0 = 29");
        run("12 whichever is the least: the HEAD", head + "block 0 0 3 3 18 18; line 0 1 19 3 3; reach 0 3 = 17");
        run("12 whichever is the least: the LINE", head + "block 0 0 3 3 18 18; line 0 1 17 3 3; reach 0 3 = 16");
        run("12 whichever is the least: both alike", head + "block 0 0 3 3 18 18; line 0 1 18 3 3; reach 0 3 = 17");
        run("12 in each of these COLUMNS by itself", head + """
            block 0 0 2 2 13 13; line 0 1 13 3 3; line 0 1 20 4 4; reach 0 * = - - - - 19 29 - -
            """);
        run("12 an UPRIGHT LINE further down stops nothing", head + "line 0 0 3..5 14 29\n" + whole);
    }

    private static void reachRefusals() {
        String three = "block 0 0 2 5 0 0; block 0 1 2 2 1 1; block 0 2 3 3 1 1\n";
        run("12 UNKNOWN: no such BLOCK", three + "reach MIN|-1|3|24|MAX 2 = UNKNOWN");
        run("12 UNKNOWN: no HEAD", three + "reach 1..2 2 = UNKNOWN");
        run("12 OUTSIDE: a COLUMN 0 .. 7", three + "reach 0 MIN|-1|8|MAX = OUTSIDE; reach 0 0|7 = NONE");
        run("12 UNKNOWN, then OUTSIDE", three + "reach MIN|-1|1|2|3|24|MAX MIN|-1|8|MAX = UNKNOWN");
        run("12 NONE: a COLUMN that it has not", three + "reach 0 1|6 = NONE; reach 0 2|5 = 29");
    }

    private static void underEdges() {
        String head = "block 0 0 2 4 10 12\n";
        run("13 its first ROW is the first of the REACH", head + """
            block 0 1 2 2 13 13; block 0 2 3 3 13 13; under 1..2 = 0
            """);
        run("13 its first ROW is ahead of the REACH", head + """
            block 0 1 1 1 13 13; block 0 1 2 2 9 9; block 0 2 3 3 0 9; under 1..3 = NONE
            """);
        run("13 its first ROW is the last of the REACH", head + """
            line 0 1 20 0 7; block 0 1 2 2 19 19; block 0 2 3 3 19 25; under 1..2 = 0
            """);
        run("13 its first ROW is behind the REACH", head + """
            line 0 1 20 0 7; block 0 1 2 2 20 20; block 0 2 3 3 20 25; under 1..2 = NONE
            """);
        run("13 its first ROW is 29", head + "block 0 1 2 2 29 29; under 1 = 0");
        run("13 its first COLUMN is the first of the REACH", head + """
            block 0 1 2 7 13 13; block 0 2 2 2 14 14; under 1..2 = 0
            """);
        run("13 its first COLUMN is ahead of the REACH", head + """
            block 0 1 1 4 13 13; block 0 2 0 2 14 14; under 1..2 = NONE
            """);
        run("13 its first COLUMN is the last of the REACH", head + """
            block 0 1 4 7 13 13; block 0 2 4 4 14 14; under 1..2 = 0
            """);
        run("13 its first COLUMN is behind the REACH", head + """
            block 0 1 5 7 13 13; block 0 2 5 5 14 14; under 1..2 = NONE
            """);
        run("13 its first COLUMN is the last ahead of an UPRIGHT LINE, or behind it", head + """
            line 0 0 4 13 13; block 0 1 3 3 20 20; block 0 1 4 4 20 20; under 1 = 0; under 2 = NONE
            """);
        run("13 the first ones alone: the HEAD over its last COLUMN is not it", """
            block 0 0 0 0 0 0; block 0 0 1 1 0 0; block 0 1 0 1 1 1; under 2 = 0
            """);
        run("13 the first ones alone: a LINE in it stops nothing", head + """
            block 0 1 2 4 13 29; line 0 1 14 0 7; under 1 = 0
            """);
        run("13 one such at most: the lower HEAD", """
            block 0 0 0 0 0 0; block 0 0 0 0 10 10; block 0 1 0 0 9 9; block 0 1 0 0 11 11; under 2 = 0; under 3 = 1
            """);
    }

    private static void underNone() {
        run("13 NONE: there is no HEAD", "block 0 1 0 0 5 5; block 0 2 1 1 5 5; under 0..1 = NONE");
        run("13 NONE: the HEAD is on another PAGE", "block 0 0 0 7 0 0; block 1..3 1 0 0 1 1; under 1..3 = NONE");
        run("13 NONE: beside the HEAD", "block 0 0 1 1 5 9; block 0 1 0 0 5 9; block 0 1 2 2 5 9; under 1..2 = NONE");
        run("13 NONE: a TEXT is no HEAD over another", "block 0 1 0 0 0 0; block 0 1 0 0 1 1; under 1 = NONE");
        run("13 NONE: the lower HEAD has not its COLUMN in its REACH, the upper ends above", """
            block 0 0 0 3 0 0; block 0 0 0 3 10 10; line 0 0 2 11 11; block 0 1 2 2 11 12; block 0 1 1 1 11 12
            under 2 = NONE; under 3 = 1
            """);
        run("13 NONE: the lower HEAD has no ROW there, the upper ends above", """
            block 0 0 0 0 0 0; block 0 0 0 0 10 10; line 0 1 11 0 0; block 0 1 0 0 11 12; under 2 = NONE
            """);
        run("13 NONE: the lower HEAD is at the foot, nothing is below", """
            block 0 0 0 0 0 0; block 0 0 0 0 29 29; block 0 1 0 0 28 28; under 2 = 0; reach 0 0 = 28; reach 1 0 = NONE
            """);
    }

    private static void underRefusals() {
        String three = "block 0 0 0 7 0 0; block 0 1 0 0 1 1; block 0 2 1 1 1 1\n";
        run("13 UNKNOWN", three + "under MIN|-1|3|24|MAX = UNKNOWN; under 1..2 = 0");
        run("13 STATE: it is a HEAD", three + "under 0 = STATE; block 0 0 0 7 9 9 = 3; under 3 = STATE");
    }

    private static void order() {
        run("17 by their first COLUMNS, not as they came", """
            block 0 1 7 7 1 1; block 0 1 0 0 1 1; block 0 1 3 3 1 1; block 0 0 0 7 0 0; text 0 * = 1 2 0 -
            """);
        run("17 by their first COLUMNS, whatever their ROWS", """
            block 0 0 0 7 0 0; block 0 1 1 1 1 1; block 0 1 0 0 29 29; text 0 * = 2 1 -
            """);
        run("17 by their first COLUMNS, not by their last ones", """
            block 0 0 0 7 0 0; block 0 1 1 1 1 1; block 0 1 0 7 2 2; text 0 * = 2 1 -
            """);
        run("17 by their first COLUMNS: a wide one's last COLUMN is the other's first", """
            block 0 0 0 7 0 0; block 0 1 0 3 5 5; block 0 1 3 3 1 1; text 0 * = 1 2 -; block 0 1 3 7 2 2; text 0 * = 1 2 3 -
            """);
        run("17 of those alike by their first ROWS: a wide one came first", """
            block 0 0 0 7 0 0; block 0 1 0 3 5 5; block 0 1 0 0 1 1; block 0 1 0 7 3 3; text 0 * = 2 3 1 -
            """);
        run("17 of those alike by their first ROWS", """
            block 0 0 0 7 0 0; block 0 1 0 0 20 29; block 0 1 0 3 1 1; block 0 1 0 0 2 19; text 0 * = 2 3 1 -
            """);
        run("17 then those that are JOINED, though they are further left and higher", """
            block 0 0 0 2 10 10; block 0 1 2 2 20 29; block 0 1 0 0 11 29; line 0 1 11 1 1; block 0 1 1 1 11 29
            under 3 = NONE; takenBy 3 = 2; text 0 * = 2 1 3 -
            """);
        run("17 PICTURES are no TEXTS", "block 0 0 0 7 0 0; block 0 2 0 0 1 1; block 0 1 1 1 1 1; text 0 * = 2 -");
        run("17 of two HEADS each has its own", """
            block 0 0 4 7 0 0; block 0 0 0 3 0 0; block 0 1 5 5 1 1; block 0 1 1 1 1 1; block 0 1 4 4 1 1; block 0 1 0 0 1 1
            text 0 * = 4 2 -; text 1 * = 5 3 -
            """);
    }

    private static void joinedAgainAndAgain() {
        run("15 as long as there is one: through all COLUMNS", """
            block 0 0 0 0 0 0; block 0 1 7 7 1 1; block 0 1 6 6 1 1; block 0 1 5 5 1 1; block 0 1 4 4 1 1
            block 0 1 3 3 1 1; block 0 1 2 2 1 1; block 0 1 1 1 1 1; block 0 1 0 0 1 1
            takenBy * = STATE 2 3 4 5 6 7 8 -; text 0 * = 8 7 6 5 4 3 2 1 -; many 5 = 7; many 6 = 0; ofStory 0 4 = 7
            """);
        run("15 the least number first, of those that can be taken", """
            block 0 0 0 0 0 0; block 0 1 1 1 5 5; block 0 1 1 1 3 3; block 0 1 1 1 1 1; block 0 1 0 0 1 5
            text 0 * = 4 1 2 3 -
            """);
        run("15 again from the least number on", """
            block 0 0 0 0 0 0; block 0 1 2 2 1 1; block 0 1 1 1 1 1; block 0 1 1 1 2 2; block 0 1 0 0 1 5
            text 0 * = 4 2 1 3 -
            """);
        run("15 two STORIES, each gets its own behind its last", """
            block 0 0 0 0 0 0; block 0 0 4 4 0 0; block 0 1 1 1 1 1; block 0 1 5 5 1 1; block 0 1 0 0 1 1; block 0 1 4 4 1 1
            block 0 1 6 6 1 1; block 0 1 2 2 1 1; text 0 * = 4 2 7 -; text 1 * = 5 3 6 -
            """);
        run("15 LOOSE are TEXTS that are UNDER no HEAD: one that is UNDER one is not taken", """
            block 0 0 0 1 0 0; block 0 1 0 0 1 1; block 0 1 1 1 1 1; takenBy 1..2 = NONE; ofStory 0 4 = 0
            """);
        run("15 of another HEAD's STORY: one UNDER a HEAD is not taken", """
            block 0 0 0 0 0 0; block 0 0 1 1 0 0; block 0 1 0 0 1 1; block 0 1 1 1 1 1; takenBy 2..3 = NONE; story 3 = 1
            """);
        run("15 BLOCK 0 takes", """
            block 0 1 0 0 1 9; block 0 1 1 1 1 9; block 0 0 0 0 0 0; takenBy * = - 0 STATE; many 5 = 1
            """);
        run("15 BLOCK 0 is taken", """
            block 0 1 1 1 1 9; block 0 1 0 0 1 9; block 0 0 0 0 0 0; takenBy * = 1 - STATE; many 5 = 1; ofStory 0 4 = 1
            """);
        run("15 23 TEXTS, the last of them JOINED", joinedRows());
    }

    /** A head over one tall text, and 22 texts of one row beside it. */
    private static String joinedRows() {
        StringBuilder rows = new StringBuilder("block 0 0 0 0 0 0; block 0 1 0 0 1 29\n");
        for (int k = 2; k < 24; k++) {
            rows.append("block 0 1 1 1 ").append(k).append(' ').append(k).append(" = ").append(k).append('\n');
        }
        return rows + "takenBy 2..23 = 1; many 5 = 22; ofStory 0 4 = 22; ofStory 0 1 = 23; text 0 22 = 23; text 0 23 = NONE; text 0 0 = 1; text 0 1 = 2";
    }

    private static void takesColumnsAndPages() {
        String y = "block 0 0 0 2 0 0; block 0 1 1 2 1 9\n";
        run("15 its last COLUMN is the one ahead of X's first", y + "block 0 1 3 3 1 9; takenBy 2 = 1");
        run("15 its last COLUMN is two ahead", y + "block 0 1 4 4 1 9; takenBy 2 = NONE");
        run("15 its last COLUMN is X's own", y + """
            block 0 1 2 2 10 12; block 0 1 3 3 10 12; takenBy 2 = NONE; takenBy 3 = 2
            """);
        run("15 its last COLUMN, not its first", """
            block 0 0 0 0 0 0; block 0 1 0 1 1 9; block 0 1 2 2 1 9; takenBy 2 = 1
            """);
        run("15 X's first COLUMN, not its last", y + "block 0 1 3 7 1 9; takenBy 2 = 1");
        run("15 what stands on the left takes, not what stands on the right", """
            block 0 0 1 1 0 0; block 0 1 1 1 1 9; block 0 1 0 0 1 9; takenBy 2 = NONE; story 2 = 1
            """);
        run("15 X in COLUMN 0 is taken by none", """
            block 0 0 1 7 0 0; block 0 1 7 7 1 9; block 0 1 0 0 1 9; takenBy 2 = NONE
            """);
        run("15 on the same PAGE", y + "block 1..3 1 3 3 1 9; takenBy 2..4 = NONE");
        run("15 a TEXT takes, no PICTURE", "block 0 0 0 0 0 0; block 0 2 0 0 1 9; block 0 1 1 1 1 9; takenBy 2 = NONE");
        run("15 a TEXT takes, no HEAD", "block 0 0 0 0 0 9; block 0 1 1 1 0 9; takenBy 1 = NONE");
        run("15 a TEXT is taken, no PICTURE", y + "block 0 2 3 3 1 9; takenBy 2 = STATE; story 2 = NONE; many 5 = 0");
        run("15 in a STORY of a HEAD: one that is LEFT OVER takes none", """
            block 0 1 0 0 1 9; block 0 1 1 1 1 9; takenBy 0..1 = NONE; many 6 = 2
            """);
        run("15 in a STORY of a HEAD: UNDER it", y + "block 0 1 3 3 9 9; takenBy 2 = 1; story 2 = 0; under 2 = NONE");
        run("15 in a STORY of a HEAD: JOINED already", y + """
            block 0 1 3 3 9 20; block 0 1 4 4 20 20; takenBy 2 = 1; takenBy 3 = 2; story 3 = 0
            """);
    }

    private static void takesRows() {
        String y = "block 0 0 0 0 0 0; block 0 1 0 0 5 9\n";
        run("15 some ROW is in both: Y's first is X's last", y + "block 0 1 1 1 0 5; takenBy 2 = 1");
        run("15 some ROW is in both: X ends a ROW too early", y + "block 0 1 1 1 0 4; takenBy 2 = NONE");
        run("15 some ROW is in both: Y's last is X's first", y + "block 0 1 1 1 9 29; takenBy 2 = 1");
        run("15 some ROW is in both: X begins a ROW too late", y + "block 0 1 1 1 10 29; takenBy 2 = NONE");
        run("15 some ROW is in both: X in Y", y + "block 0 1 1 1 7 7; takenBy 2 = 1");
        run("15 some ROW is in both: Y in X", y + "block 0 1 1 1 0 29; takenBy 2 = 1");
        run("15 some ROW is in both: in ROW 29", """
            block 0 0 0 0 0 0; block 0 1 0 0 29 29; block 0 1 1 1 29 29; takenBy 2 = 1
            """);
    }

    private static void takesLines() {
        String pair = "block 0 0 0 1 0 0; block 0 1 0 1 5 9; block 0 1 2 3 7 12\n";
        run("15 an UPRIGHT LINE in the first ROW of both", pair + "line 0 0 2 7 7; takenBy 2 = NONE; story 2 = 1");
        run("15 an UPRIGHT LINE in the last ROW of both", pair + "line 0 0 2 9 9; takenBy 2 = NONE");
        run("15 an UPRIGHT LINE that ends in the first ROW of both", pair + "line 0 0 2 0 7; takenBy 2 = NONE");
        run("15 an UPRIGHT LINE that begins in the last ROW of both", pair + "line 0 0 2 9 29; takenBy 2 = NONE");
        run("15 an UPRIGHT LINE all along", pair + "line 0 0 2 0 29; takenBy 2 = NONE");
        run("15 an UPRIGHT LINE in ROWS of Y alone", pair + """
            line 0 0 2 5 6; takenBy 2 = 1; line 0 0 2 0 6; takenBy 2 = 1
            """);
        run("15 an UPRIGHT LINE in ROWS of X alone", pair + """
            line 0 0 2 10 12; takenBy 2 = 1; line 0 0 2 10 29; takenBy 2 = 1
            """);
        run("15 at X's first COLUMN: not one ahead or behind", pair + """
            line 0 0 1 0 29; line 0 0 3 0 29; takenBy 2 = 1
            """);
        run("15 on the same PAGE: a LINE of another", pair + "line 1..3 0 2 0 29; takenBy 2 = 1");
        run("15 a FLAT LINE parts nobody", pair + "line 0 1 2 2 7; line 0 1 8 0 7; takenBy 2 = 1");
        run("15 a second LINE parts them, the first does not", pair + """
            line 0 0 2 0 1; line 0 0 2 8 8; takenBy 2 = NONE; erase = 1; takenBy 2 = 1
            """);
        run("15 one ROW in both and a LINE in it", """
            block 0 0 0 0 0 0; block 0 1 0 0 5 9; block 0 1 1 1 9 12; takenBy 2 = 1; line 0 0 1 9 9; takenBy 2 = NONE
            """);
    }

    private static void takesLeastRow() {
        run("15 of several Y the least first ROW, it came last", """
            block 0 0 0 0 0 0; block 0 1 0 0 10 19; block 0 1 0 0 1 9; block 0 1 1 1 0 29; takenBy 3 = 2
            """);
        run("15 of several Y the least first ROW, it came first", """
            block 0 0 0 0 0 0; block 0 1 0 0 1 9; block 0 1 0 0 10 19; block 0 1 1 1 0 29; takenBy 3 = 1
            """);
        run("15 of several Y: only those that have a ROW with X", """
            block 0 0 0 0 0 0; block 0 1 0 0 1 9; block 0 1 0 0 10 19; block 0 1 1 1 10 29; takenBy 3 = 2
            """);
        run("15 of several Y: only those without a LINE between", """
            block 0 0 0 0 0 0; block 0 1 0 0 1 9; block 0 1 0 0 10 19; block 0 1 1 1 0 29; line 0 0 1 9 9; takenBy 3 = 2
            """);
        run("15 of several Y: only those in a STORY of a HEAD", """
            block 0 1 0 0 0 9; block 0 0 0 0 10 10; block 0 1 0 0 11 19; block 0 1 1 1 0 29; takenBy 3 = 2; takenBy 0 = NONE
            """);
        run("15 of several Y of two STORIES the upper one's STORY", """
            block 0 0 0 0 10 10; block 0 0 0 0 0 0; block 0 1 0 0 11 19; block 0 1 0 0 9 9; block 0 1 1 1 0 29
            takenBy 4 = 3; story 4 = 1; text 1 * = 3 4 -; text 0 * = 2 -
            """);
        run("15 of several Y: one that is JOINED later is too late", """
            block 0 0 0 0 0 0; block 0 1 2 2 1 9; block 0 1 1 1 1 2; block 0 1 0 0 1 9; block 0 1 1 1 3 9
            takenBy 1 = 2; line 0 0 2 1 2; takenBy 1 = 4; text 0 * = 3 2 4 1 -
            """);
        run("15 of several Y: the upper one has a greater number than X and waits, the lower one takes", """
            block 0 0 1 1 5 5; block 0 0 0 0 0 0; block 0 1 1 1 6 9; block 0 1 2 2 1 9; block 0 1 1 1 1 4; block 0 1 0 0 1 9
            takenBy 3 = 2; story 3 = 0; takenBy 4 = 5; story 4 = 1
            """);
        run("15 of several Y: the upper one has a lower number than X and is there in time", """
            block 0 0 1 1 5 5; block 0 0 0 0 0 0; block 0 1 1 1 6 9; block 0 1 1 1 1 4; block 0 1 2 2 1 9; block 0 1 0 0 1 9
            takenBy 3 = 5; takenBy 4 = 3; story 4 = 1
            """);
    }

    private static void leftOver() {
        run("14 LEFT OVER: a STORY of its own, without a HEAD, with that one TEXT", """
            block 0 1 0 0 0 0; words 0 5; story 0 = 0; ofStory 0 * = - 1 5 0 0 - - 0 0; text 0 * = 0 -; many 6 = 1
            """);
        run("14 LEFT OVER: two beside one another are two STORIES", """
            block 0 1 0 0 0 9; block 0 1 1 1 0 9; story * = 0 1; many 4 = 2; many 6 = 2
            """);
        run("14 LEFT OVER: one over another are two STORIES", """
            block 0 1 0 0 0 9; block 0 1 0 0 10 19; story * = 0 1; many 6 = 2
            """);
        run("14 never JOINED: none is LEFT OVER", """
            block 0 0 0 0 0 0; block 0 1 0 0 1 9; block 0 1 1 1 1 9; many 6 = 0; many 5 = 1; many 4 = 1
            """);
        run("14 no PICTURE is a STORY", """
            block 0 2 0 0 0 0; many 4 = 0; many 6 = 0; ofStory 0 0 = UNKNOWN; story 0 = NONE
            """);
    }

    private static void numbers() {
        run("14 numbered by HEADS and TEXTS alike, the least first", """
            block 0 1 0 0 0 0; block 1 0 0 0 0 0; block 0 1 5 5 0 0; block 2 0 0 0 0 0; story * = 0 1 2 3
            ofStory * 0 = - 1 - 3
            """);
        run("14 numbered by the HEAD, not by its first TEXT", """
            block 0 1 0 0 1 1; block 1 1 0 0 0 0; block 0 0 0 0 0 0; story * = 1 0 1
            """);
        run("14 a HEAD with no TEXT is a STORY", """
            block 0 0 0 0 29 29; many 4 = 1; story 0 = 0; ofStory 0 * = 0 0 0 0 0 - - 0 0; text 0 0 = NONE
            """);
        run("14 24 HEADS are 24 STORIES", heads() + """
            many 4 = 24; story 23 = 23; ofStory 23 0 = 23; ofStory 24 0 = UNKNOWN; text 23 0 = NONE
            text 24 0 = UNKNOWN
            """);
    }

    private static String heads() {
        StringBuilder rows = new StringBuilder();
        for (int k = 0; k < 24; k++) {
            rows.append("block ").append(k / 8).append(" 0 ").append(k % 8).append(' ').append(k % 8).append(" 0 0\n");
        }
        return rows.toString();
    }

    private static void storyAndTakenBy() {
        String five = "block 0 0 0 0 0 0; block 0 1 0 0 1 1; block 0 2 0 0 2 2; block 1 2 0 0 1 1; block 0 1 1 1 1 1\n";
        run("14 of a HEAD, a TEXT, a PICTURE; NONE: UNDER no HEAD", five + "story * = 0 0 0 - 0");
        run("14 UNKNOWN", five + "story MIN|-1|5|24|MAX = UNKNOWN");
        run("14 a PICTURE UNDER none while there is one STORY without a HEAD", """
            block 0 1 0 0 0 0; block 0 2 0 0 1 1; story * = 0 -
            """);
        run("15 NONE: it is not JOINED", five + "takenBy 1 = NONE; takenBy 4 = 1");
        run("15 STATE: it is no TEXT", five + "takenBy 0|2|3 = STATE");
        run("15 UNKNOWN", five + "takenBy MIN|-1|5|24|MAX = UNKNOWN");
    }

    private static void ofStory() {
        String two = """
            block 0 0 0 1 0 0; block 0 1 0 0 1 9; block 0 1 1 1 1 9; block 0 1 2 2 9 9; block 0 2 0 0 10 12
            block 0 2 1 1 10 12; block 0 2 2 2 10 12; block 1 1 3 3 0 9; block 1 2 3 3 10 10
            """;
        run("16 0 its HEAD .. 8 whether it is BROKEN", two + """
            ofStory 0 * = 0 3 3 2 1 - - 0 0; ofStory 1 * = - 1 1 0 0 - - 1 0
            """);
        run("16 2 WORDS of all of them: the most", "block 0 0 0 0 0 0\n" + tallTexts() + "ofStory 0 2 = 2277; ofArticle 0 3 = 2277");
        run("16 2 WORDS as they are when it is asked", two + """
            ofStory 0 2 = 3; words 3 99 = 1; ofStory 0 2 = 101; words 3 1 = 99; ofStory 0 2 = 3
            """);
        run("16 UNKNOWN: s", two + "ofStory MIN|-1|2|24|MAX 0..8 = UNKNOWN");
        run("16 OUTSIDE: what", two + "ofStory 0..1 MIN|-1|9|MAX = OUTSIDE");
        run("16 UNKNOWN, then OUTSIDE", two + "ofStory MIN|-1|2|24|MAX MIN|-1|9|MAX = UNKNOWN");
        run("16 3 PICTURES: BLOCK 0 is one", """
            block 0 2 0 0 1 1; block 0 0 0 0 0 0; ofStory 0 3 = 1; story 0 = 0; many 11 = 0
            """);
        run("16 3 PICTURES: 23 UNDER its HEAD", pictures() + "ofStory 0 3 = 23; ofStory 0 1 = 0; many 11 = 0");
    }

    private static String tallTexts() {
        StringBuilder rows = new StringBuilder();
        for (int k = 1; k < 24; k++) {
            rows.append("block 0 1 0 0 ").append(k).append(' ').append(k).append("; words ").append(k).append(" 99\n");
        }
        return rows.toString();
    }

    private static String pictures() {
        StringBuilder rows = new StringBuilder("block 0 0 0 0 0 0\n");
        for (int k = 1; k < 24; k++) {
            rows.append("block 0 2 0 0 ").append(k).append(' ').append(k).append('\n');
        }
        return rows.toString();
    }

    private static void text() {
        String one = "block 0 0 0 0 0 0; block 0 1 0 0 1 1; block 0 1 0 0 2 2\n";
        run("17 NONE: it has not so many", one + "text 0 0 = 1; text 0 1 = 2; text 0 2..23 = NONE");
        run("17 OUTSIDE: i (0 .. 23)", one + "text 0 MIN|-1|24|MAX = OUTSIDE; text 0 23 = NONE");
        run("17 UNKNOWN: s", one + "text MIN|-1|1|24|MAX 0|23 = UNKNOWN");
        run("17 UNKNOWN, then OUTSIDE", one + "text MIN|-1|1|24|MAX MIN|-1|24|MAX = UNKNOWN");
        run("17 23 TEXTS, the most", "block 0 0 0 0 0 0\n" + tallTexts() + "text 0 0 = 1; text 0 22 = 23; text 0 23 = NONE; text 0 24 = OUTSIDE");
    }

    private static void asWhenAsked() {
        run("12 as BLOCKS are when it is asked", """
            block 0 0 0 0 0 0; reach 0 0 = 29; block 0 0 0 0 9 9; reach 0 0 = 8; back = 1; reach 0 0 = 29
            turn = 1; reach 0 0 = NONE; reach 0 7 = 29
            """);
        run("12 as LINES are when it is asked", """
            block 0 0 0 1 0 0; line 0 1 9 0 0; reach 0 * = 8 29 - - - - - -; line 0 0 1 1 1; reach 0 * = 8 - - - - - - -
            erase = 1; reach 0 * = 8 29 - - - - - -; erase = 0; reach 0 * = 29 29 - - - - - -
            """);
        run("13 as BLOCKS and LINES are when it is asked", """
            block 0 1 0 0 5 5; under 0 = NONE; block 0 0 0 0 0 0; under 0 = 1; line 0 1 5 0 0; under 0 = NONE
            erase = 0; under 0 = 1; turn = 2; under 0 = 1; back = 1; under 0 = NONE
            """);
        run("15 as BLOCKS and LINES are when it is asked", """
            block 0 1 1 1 1 9; block 0 1 0 0 1 9; takenBy 0 = NONE; block 0 0 0 0 0 0; takenBy 0 = 1
            line 0 0 1 5 5; takenBy 0 = NONE; erase = 0; takenBy 0 = 1; turn = 3; takenBy 0 = NONE; turn = 3; takenBy 0 = 1
            back = 2; takenBy 0 = NONE
            """);
        run("14 as BLOCKS are when it is asked", """
            block 0 1 0 0 5 5; story 0 = 0; many 6 = 1; block 0 0 0 0 0 0; story 0 = 0; many 6 = 0; ofStory 0 0 = 1
            clear = 2; many 4 = 0; ofStory 0 0 = UNKNOWN
            """);
    }
}
