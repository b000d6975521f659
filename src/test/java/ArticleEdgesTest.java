/** Promises 18 to 23: each sentence that names a boundary case, as a run of its own. */
public final class ArticleEdgesTest {
    private static final Due D = new Due();
    /** A HEAD, its TEXT, a PICTURE. */
    private static final String THREE = "block 0 0 0 0 0 0; block 0 1 0 0 1 1; block 0 2 0 0 2 2\n";

    public static void main(String[] args) {
        markNumbers();
        markRefusals();
        unmark();
        ofMark();
        goesOn();
        lastInItsOrder();
        aimFits();
        aimLeastNumber();
        broken();
        linked();
        articles();
        rings();
        ofArticle();
        read();
        many();
        idleMarks();
        asWhenAsked();
        D.end();
    }

    private static void run(String sentence, String rows) {
        Runs.run(D, sentence, rows);
    }

    /** STORIES 0, 1, .. with HEADS 0, 2, .. and TEXTS 1, 3, .., STORY s on PAGE s % 4. */
    private static String stories(int many) {
        StringBuilder rows = new StringBuilder();
        for (int s = 0; s < many; s++) {
            String columns = " " + s / 4 * 2 + " " + s / 4 * 2;
            rows.append("block ").append(s % 4).append(" 0").append(columns).append(" 0 0\n");
            rows.append("block ").append(s % 4).append(" 1").append(columns).append(" 1 9\n");
        }
        return rows.toString();
    }

    /** The TEXT of STORY s goes on at the HEAD of STORY to; the WORD is theirs alone. */
    private static String link(int s, int to) {
        int word = 8 * s + to;
        return "mark " + (2 * s + 1) + " 0 " + to % 4 + " " + word + "; mark " + 2 * to + " 1 " + s % 4 + " " + word + "\n";
    }

    private static void markNumbers() {
        run("18 PAGE 0 .. 3", THREE + """
            mark 1 0..1 MIN|-1|4|MAX 0 = OUTSIDE; mark 1 0..1 0 0 = 0; mark 1 0..1 3 0 = 1; ofMark 1 0..1 0 = 3
            """);
        run("18 WORD 0 .. 99", THREE + """
            mark 1 0..1 0 MIN|-1|100|MAX = OUTSIDE; mark 1 0..1 0 0 = 0; mark 1 0..1 0 99 = 1; ofMark 1 0..1 1 = 99
            """);
        run("18 which 0, 1", THREE + "mark 1 MIN|-1|2|MAX 0 0 = OUTSIDE; mark 1 0 0 0 = 0; mark 1 1 0 0 = 0");
        run("18 whether it had one: each of the two by itself", THREE + """
            mark 1 0 0 0 = 0; mark 1 1 0 0 = 0; mark 1 0 0 0 = 1; mark 1 1 0 0 = 1
            """);
        run("18 whether it had one: each BLOCK by itself", THREE + """
            mark 0 1 0 0 = 0; mark 1 1 0 0 = 0; mark 0 1 0 0 = 1
            """);
        run("18 in place of any", THREE + """
            mark 1 0 1 2 = 0; mark 1 0 3 4 = 1; ofMark 1 0 * = 3 4; unmark 1 0 = 1; ofMark 1 0 * = - -; unmark 1 0 = 0
            """);
        run("18 PAGE 0 and WORD 0 are a mark", THREE + """
            mark 0 1 0 0 = 0; ofMark 0 1 * = 0 0; mark 0 1 0 0 = 1; unmark 0 1 = 1
            """);
        run("18 the last BLOCK of 24", heads(23) + """
            block 3 1 7 7 29 29 = 23; mark 23 0 3 99 = 0; mark 23 1 0 1 = 0; ofMark 23 0 * = 3 99; ofMark 23 1 * = 0 1
            ofMark 22 0..1 0 = NONE
            """);
    }

    private static String heads(int many) {
        StringBuilder rows = new StringBuilder();
        for (int k = 0; k < many; k++) {
            rows.append("block ").append(k / 8).append(" 0 ").append(k % 8).append(' ').append(k % 8).append(" 0 0\n");
        }
        return rows.toString();
    }

    private static void markRefusals() {
        run("18 STATE: it is a PICTURE", THREE + "mark 2 0..1 0|3 0|99 = STATE; ofMark 2 0..1 0..1 = NONE");
        run("18 STATE: a HEAD (with ONWARD)", THREE + """
            mark 0 0 0|3 0|99 = STATE; ofMark 0 0 0..1 = NONE; mark 0 1 0 0 = 0
            """);
        run("18 OUTSIDE, then STATE", THREE + """
            mark 0|2 0 -1|4 0 = OUTSIDE; mark 0|2 0 0 -1|100 = OUTSIDE; mark 0|2 -1|2 0 0 = OUTSIDE
            mark 2 1 4 0 = OUTSIDE; mark 2 1 0 100 = OUTSIDE
            """);
        run("18 UNKNOWN", THREE + "mark MIN|-1|3|24|MAX 0..1 0 0 = UNKNOWN");
        run("18 UNKNOWN, then OUTSIDE", THREE + """
            mark MIN|-1|3|24|MAX -1|2 0 0 = UNKNOWN; mark MIN|-1|3|24|MAX 0 -1|4 0 = UNKNOWN
            mark MIN|-1|3|24|MAX 0 0 -1|100 = UNKNOWN
            """);
        run("18 a refused mark leaves the one that is there", THREE + """
            mark 1 0 1 7; mark 1 0 4 8 = OUTSIDE; mark 1 0 2 100 = OUTSIDE; mark 1 2 2 8 = OUTSIDE; ofMark 1 0 * = 1 7
            ofMark 1 1 * = - -
            """);
    }

    private static void unmark() {
        run("19 whether it had one", THREE + """
            unmark 1 0..1 = 0; mark 1 0..1 0 0; unmark 1 0..1 = 1; unmark 1 0..1 = 0
            """);
        run("19 the other one stays", THREE + """
            mark 1 0..1 2 5; unmark 1 0 = 1; ofMark 1 0 * = - -; ofMark 1 1 * = 2 5
            """);
        run("19 another BLOCK's stays", THREE + "mark 0..1 1 2 5; unmark 0 1 = 1; ofMark 1 1 * = 2 5");
        run("19 of a PICTURE, or ONWARD of a HEAD: it had none", THREE + "unmark 2 0..1 = 0; unmark 0 0 = 0");
        run("19 OUTSIDE: which", THREE + "unmark 0..2 MIN|-1|2|MAX = OUTSIDE");
        run("19 UNKNOWN", THREE + "unmark MIN|-1|3|24|MAX 0..1 = UNKNOWN");
        run("19 UNKNOWN, then OUTSIDE", THREE + "unmark MIN|-1|3|24|MAX MIN|-1|2|MAX = UNKNOWN");
    }

    private static void ofMark() {
        run("20 NONE: it has none", THREE + """
            ofMark 0..2 0..1 0..1 = NONE; mark 1 0 0 0; ofMark 1 0 0..1 = 0; ofMark 1 1 0..1 = NONE
            """);
        run("20 PAGE and WORD, the least and the most", THREE + """
            mark 1 0 0 99; mark 1 1 3 0; ofMark 1 0 * = 0 99; ofMark 1 1 * = 3 0
            """);
        run("20 OUTSIDE: which", THREE + "ofMark 0..2 MIN|-1|2|MAX 0 = OUTSIDE");
        run("20 OUTSIDE: what", THREE + "ofMark 0..2 0..1 MIN|-1|2|MAX = OUTSIDE");
        run("20 UNKNOWN", THREE + "ofMark MIN|-1|3|24|MAX 0..1 0..1 = UNKNOWN");
        run("20 UNKNOWN, then OUTSIDE", THREE + """
            ofMark MIN|-1|3|24|MAX -1|2 0 = UNKNOWN; ofMark MIN|-1|3|24|MAX 0 -1|2 = UNKNOWN
            """);
    }

    private static void goesOn() {
        run("16 a STORY without a mark does not go on", stories(2) + """
            ofStory 0..1 5..6 = NONE; ofStory 0..1 8 = 0; many 9 = 0
            """);
        run("16 a mark FROM alone: it does not go on", stories(2) + """
            mark 0..1 1 1 5; ofStory 0 8 = 0; many 9 = 0; ofArticle 0 6 = 0
            """);
        run("16 a mark ONWARD that fits none: it goes on and is BROKEN", stories(2) + """
            mark 1 0 1 5; ofStory 0 8 = 1; ofStory 0 5 = NONE; many 9 = 1; ofArticle 0 6 = 1
            """);
        run("16 a HEAD without TEXTS does not go on", """
            block 0 0 0 0 0 0; mark 0 1 0 0; mark 0 0 0 0 = STATE; ofStory 0 8 = 0; many 9 = 0
            """);
        run("16 any of its TEXTS: the first of three", """
            block 0 0 0 2 0 0; block 0 1 0 0 1 1; block 0 1 1 1 1 1; block 0 1 2 2 1 1; block 1 0 0 0 0 0; mark 4 1 0 7
            mark 1 0 1 7; ofStory 0 5 = 1; unmark 1 0 = 1; mark 2 0 1 7; ofStory 0 5 = 1; unmark 2 0 = 1; ofStory 0 5 = NONE
            ofStory 0 8 = 0; mark 3 0 1 7; ofStory 0 5 = 1
            """);
        run("16 any of its TEXTS: one that is JOINED", """
            block 0 0 0 0 0 0; block 0 1 0 0 1 1; block 0 1 1 1 1 1; block 1 0 0 0 0 0; mark 3 1 0 7; mark 2 0 1 7; ofStory 0 5 = 1
            """);
        run("16 one that is LEFT OVER goes on, too", """
            block 0 1 0 0 0 0; block 1 1 0 0 0 0; mark 0 0 1 0; mark 1 1 0 0; ofStory 0 5 = 1; ofStory 1 6 = 0
            """);
    }

    private static void lastInItsOrder() {
        String two = "block 0 0 0 1 0 0; block 0 1 1 1 1 9; block 0 1 0 0 1 9; block 1..3 0 0 0 0 0; mark 3..5 1 0 7\n";
        run("16 the last such in its order, not by number", two + """
            mark 2 0 1 7; mark 1 0 2 7; ofStory 0 5 = 2; ofStory 2 6 = 0; ofStory 1 6 = NONE
            """);
        run("16 the last such, though it leads nowhere", two + """
            mark 2 0 1 7; mark 1 0 2 8; ofStory 0 5 = NONE; ofStory 0 8 = 1; ofStory 1 6 = NONE
            """);
        run("16 the last such, not the last TEXT", two + "mark 2 0 1 7; ofStory 0 5 = 1");
        run("16 the last such is JOINED", two + """
            block 0 1 2 2 9 9 = 6; mark 1 0 1 7; mark 2 0 2 7; mark 6 0 3 7; takenBy 6 = 1; ofStory 0 5 = 3
            unmark 6 0; ofStory 0 5 = 1
            """);
        run("16 the last such in its order is alike in COLUMN and lower", """
            block 0 0 0 0 0 0; block 0 1 0 0 9 9; block 0 1 0 0 1 1; block 1..2 0 0 0 0 0; mark 3..4 1 0 7; mark 1 0 1 7; mark 2 0 2 7
            ofStory 0 5 = 1
            """);
    }

    private static void aimFits() {
        String two = stories(4);
        run("16 the same WORD: 0", two + """
            mark 1 0 1 0; mark 2 1 0 0; ofStory 0 5 = 1; mark 2 1 0 1 = 1; ofStory 0 5 = NONE
            """);
        run("16 the same WORD: 99", two + """
            mark 1 0 1 99; mark 2 1 0 98; ofStory 0 5 = NONE; mark 2 1 0 99 = 1; ofStory 0 5 = 1
            """);
        run("16 on the PAGE of the mark", two + """
            mark 1 0 3 5; mark 2 1 0 5; mark 4 1 0 5; ofStory 0 5 = NONE; ofStory 0 8 = 1; mark 6 1 0 5
            ofStory 0 5 = 3
            """);
        run("16 with the PAGE on which that TEXT stands", two + """
            mark 3 0 2 5; mark 4 1 0 5; ofStory 1 5 = NONE; mark 4 1 2 5; ofStory 1 5 = NONE; mark 4 1 1 5
            ofStory 1 5 = 2
            """);
        run("16 a mark ONWARD is no mark FROM", two + """
            mark 1 0 1 5; mark 3 0 0 5; ofStory 0..1 5 = NONE; ofStory 0..1 8 = 1
            """);
        run("16 a BLOCK without a mark fits no PAGE 0 and WORD 0", two + """
            mark 1 0 1 0; ofStory 0 5 = NONE; ofStory 0 8 = 1; mark 7 0 0 0; ofStory 3 5 = NONE
            """);
        run("16 HEAD or TEXT: a HEAD", two + "mark 1 0 2 5; mark 4 1 0 5; ofStory 0 5 = 2");
        run("16 HEAD or TEXT: a TEXT", two + "mark 1 0 2 5; mark 5 1 0 5; ofStory 0 5 = 2");
        run("16 HEAD or TEXT: a HEAD without TEXTS", """
            block 0 1 0 0 0 0; block 1 0 7 7 29 29; mark 0 0 1 5; mark 1 1 0 5; ofStory 0 5 = 1
            """);
        run("16 HEAD or TEXT: one that is JOINED", """
            block 0 1 7 7 0 0; block 1 0 0 0 0 0; block 1 1 0 0 1 1; block 1 1 1 1 1 1; mark 0 0 1 5; mark 3 1 0 5; ofStory 0 5 = 1
            """);
        run("16 on the PAGE of the mark, it may be the same PAGE", """
            block 0 1 0 0 0 0; block 0 1 5 5 0 0; mark 0 0 0 5; mark 1 1 0 5; ofStory 0 5 = 1; ofStory 0 8 = 0
            """);
    }

    private static void aimLeastNumber() {
        run("16 the least number of BLOCKS, not of STORIES", """
            block 1 1 4 4 1 9; block 0 1 0 0 0 0; block 1 0 0 0 0 0; block 1 0 4 4 0 0; mark 1 0 1 3; mark 2 1 0 3; mark 0 1 0 3
            story * = 2 0 1 2; ofStory 0 5 = 2; ofStory 1 6 = NONE
            """);
        run("16 the least number of BLOCKS, it got its mark last", stories(6) + """
            mark 1 0 1 5; mark 10 1 0 5; ofStory 0 5 = 5; mark 3 1 0 5; ofStory 0 5 = 1
            """);
        run("16 a HEAD ahead of its TEXT, both fit: one STORY", stories(2) + """
            mark 1 0 1 5; mark 2..3 1 0 5; ofStory 0 5 = 1; unmark 2 1; ofStory 0 5 = 1
            """);
        run("16 the least number is its own: BROKEN, though another fits", """
            block 0 0 0 0 0 0; block 0 1 0 0 1 1; block 0 0 5 5 0 0; mark 1 0 0 5; mark 2 1 0 5; ofStory 0 5 = 1; mark 0 1 0 5
            ofStory 0 5 = NONE; ofStory 0 8 = 1; ofStory 1 6 = NONE
            """);
        run("16 the least number is taken: BROKEN, though another fits", """
            block 0 1 0 0 0 0; block 0 1 5 5 0 0; block 1 0 0 0 0 0; block 1 0 5 5 0 0; mark 0..1 0 1 5; mark 2..3 1 0 5
            ofStory 0 5 = 2; ofStory 1 5 = NONE; ofStory * 8 = 0 1 0 0; ofStory 3 6 = NONE
            """);
    }

    private static void broken() {
        run("16 itself as its AIM: BROKEN", stories(1) + """
            mark 1 0 0 5; mark 0 1 0 5; ofStory 0 * = 0 1 1 0 0 - - 0 1; many 8 = 0; many 9 = 1
            """);
        run("16 itself as its AIM: by its own TEXT", stories(1) + """
            mark 1 0..1 0 5; ofStory 0 5..6 = NONE; ofStory 0 8 = 1
            """);
        run("16 itself as its AIM: by one that is LEFT OVER", """
            block 3 1 0 0 0 0; mark 0 0..1 3 99; ofStory 0 5..6 = NONE; ofStory 0 8 = 1; ofArticle 0 5 = 0
            """);
        run("16 itself as its AIM: by another TEXT of its own", """
            block 0 0 0 1 0 0; block 0 1 0 0 1 1; block 0 1 1 1 1 1; mark 1 0 0 5; mark 2 1 0 5; ofStory 0 5..6 = NONE; ofStory 0 8 = 1
            """);
        run("16 none whose mark fits: BROKEN, then not any more", stories(2) + """
            mark 1 0 1 5; ofStory 0 8 = 1; mark 2 1 0 5; ofStory 0 8 = 0; unmark 2 1; ofStory 0 8 = 1; unmark 1 0
            ofStory 0 8 = 0
            """);
        run("16 every STORY BROKEN: 24", textsAll() + """
            many 9 = 24; ofStory 0|23 8 = 1; ofArticle 0|23 6 = 1; many 7 = 24
            """);
    }

    private static String textsAll() {
        StringBuilder rows = new StringBuilder();
        for (int k = 0; k < 24; k++) {
            rows.append("block ").append(k % 4).append(" 1 ").append(k / 4).append(' ').append(k / 4).append(' ').append(k);
            rows.append(' ').append(k).append("; mark ").append(k).append(" 0 3 50\n");
        }
        return rows.toString();
    }

    private static void linked() {
        run("16 the one with the least number, its marks came last", stories(6) + """
            mark 4 1 1 5; mark 11 0 2 5; ofStory 2 6 = 5; ofStory 5 8 = 0; mark 3 0 2 5; ofStory 2 6 = 1; ofStory 1 5 = 2
            ofStory 5 5 = NONE; ofStory 5 8 = 1
            """);
        run("16 the others are BROKEN: two of three", """
            block 0 1 0 0 0 0; block 0 1 2 2 0 0; block 0 1 4 4 0 0; block 1 0 0 0 0 0; mark 0..2 0 1 5; mark 3 1 0 5
            ofStory * 5 = 3 - - -; ofStory 3 6 = 0; ofStory * 8 = 0 1 1 0; many 9 = 2; unmark 0 0; ofStory * 5 = - 3 - -; many 9 = 1
            """);
        run("16 other than itself: its own number is less and does not count", """
            block 0 1 0 0 0 0; block 0 1 5 5 0 0; mark 0 1 0 5; mark 0..1 0 0 5; ofStory * 5 = - 0; ofStory 0 6 = 1; ofStory * 8 = 1 0
            """);
        run("16 other than itself: its own number is greater", """
            block 0 1 0 0 0 0; block 0 1 5 5 0 0; mark 1 1 0 5; mark 0..1 0 0 5; ofStory * 5 = 1 -; ofStory 1 6 = 0; ofStory * 8 = 0 1
            """);
        run("16 one STORY in two ways: by its TEXT and by its HEAD", stories(4) + """
            mark 1 0 2 5; mark 4 1 0 5; mark 3 0 2 5; mark 5 1 1 5; ofStory 2 6 = 0; ofStory 0 5 = 2; ofStory 1 5 = NONE; ofStory 1 8 = 1
            """);
        run("16 none is LINKED to it: NONE", stories(2) + link(0, 1) + """
            ofStory 0 6 = NONE; ofStory 1 5 = NONE; ofStory 0 5 = 1; ofStory 1 6 = 0
            """);
    }

    private static void articles() {
        run("21 each STORY alone: by its number", stories(3) + """
            many 7 = 3; ofArticle * 0 = 0 1 2; ofArticle 0..2 1 = 1; ofStory * 7 = 0 1 2
            """);
        run("21 first those to which none is LINKED, by the first one's number", stories(4) + link(3, 0) + """
            many 7 = 3; ofArticle * 0 = 1 2 3; ofArticle * 1 = 1 1 2; ofStory * 7 = 2 0 1 2
            """);
        run("21 as long as a STORY is LINKED to a next one", stories(4) + link(2, 0) + link(0, 3) + link(3, 1) + """
            many 7 = 1; ofArticle 0 * = 2 4 4 4 15 0 0; read 0 * = 4 5 0 1 6 7 2 3 -
            """);
        run("21 24 ARTICLES", heads(24) + """
            many 7 = 24; ofArticle 23 0 = 23; ofArticle 24 0 = UNKNOWN; read 23 0 = 23; read 24 0 = UNKNOWN
            """);
        run("21 no ARTICLE without a STORY", """
            block 0 2 0 0 0 0; many 7 = 0; ofArticle 0 0 = UNKNOWN; read 0 0 = UNKNOWN
            """);
    }

    private static void rings() {
        run("21 a RING of two, the least", stories(2) + link(0, 1) + link(1, 0) + """
            many 8 = 1; many 7 = 1; many 9 = 0; ofArticle 0 * = 0 2 2 2 3 1 0; read 0 * = 0 1 2 3 -; ofStory * 5 = 1 0; ofStory * 6 = 1 0
            """);
        run("21 one is no RING", stories(1) + """
            mark 1 0 0 5; mark 0 1 0 5; many 8 = 0; ofArticle 0 5 = 0; ofArticle 0 6 = 1
            """);
        run("21 from its STORY with the least number on, all around", stories(4) + link(3, 1) + link(1, 2) + link(2, 3) + """
            ofArticle 1 * = 1 3 3 3 14 1 0; read 1 * = 2 3 4 5 6 7 -; ofArticle 0 * = 0 1 1 1 1 0 0
            """);
        run("21 RINGS come behind all others, though their numbers are less", stories(3) + link(0, 1) + link(1, 0) + """
            ofStory * 7 = 1 1 0; ofArticle * 5 = 0 1; ofArticle * 0 = 2 0
            """);
        run("21 RINGS by their least numbers", stories(6) + link(1, 4) + link(4, 1) + link(5, 0) + link(0, 5) + """
            many 8 = 2; ofArticle * 0 = 2 3 0 1; ofArticle * 5 = 0 0 1 1; ofStory * 7 = 2 3 0 1 3 2
            """);
        run("21 three RINGS and nothing else", stories(6) + link(0, 1) + link(1, 0) + link(2, 3) + link(3, 2) + link(4, 5) + link(5, 4) + """
            many 8 = 3; many 7 = 3; ofArticle * 0 = 0 2 4; many 9 = 0; many 10 = 0
            """);
        run("21 a lesser STORY that aims into a RING opens it", stories(3) + """
            mark 2 1 2 3; mark 4 1 1 3; mark 3 0 2 3; mark 5 0 1 3; many 8 = 1; mark 3 1 0 3; mark 1 0 1 3; many 8 = 0
            ofArticle 0 * = 0 3 3 3 7 0 1; ofStory * 8 = 0 0 1
            """);
        run("21 a greater STORY that aims into a RING is BROKEN", stories(4) + """
            mark 2 1 2 3; mark 4 1 1 3; mark 3 0 2 3; mark 5 0 1 3; mark 3 1 3 3; mark 7 0 1 3; many 8 = 1; ofStory * 8 = 0 0 0 1
            ofArticle 1 * = 3 1 1 1 8 0 1; ofArticle 2 * = 1 2 2 2 6 1 0
            """);
        run("21 a RING of all 24", ringOfAll() + """
            many 8 = 1; many 7 = 1; many 9 = 0; many 10 = 0; ofArticle 0 * = 0 24 24 24 15 1 0; read 0 0 = 0
            read 0 23 = 23; ofStory 23 5 = 0; ofStory 0 6 = 23
            """);
    }

    private static String ringOfAll() {
        StringBuilder rows = new StringBuilder();
        for (int k = 0; k < 24; k++) {
            rows.append("block ").append(k % 4).append(" 1 0 0 ").append(k).append(' ').append(k).append('\n');
        }
        for (int k = 0; k < 24; k++) {
            int to = (k + 1) % 24;
            rows.append("mark ").append(k).append(" 0 ").append(to % 4).append(' ').append(k).append('\n');
            rows.append("mark ").append(to).append(" 1 ").append(k % 4).append(' ').append(k).append('\n');
        }
        return rows.toString();
    }

    private static void ofArticle() {
        run("21 UNKNOWN: r", stories(2) + "ofArticle MIN|-1|2|24|MAX 0..6 = UNKNOWN");
        run("21 OUTSIDE: what", stories(2) + "ofArticle 0..1 MIN|-1|7|MAX = OUTSIDE");
        run("21 UNKNOWN, then OUTSIDE", stories(2) + "ofArticle MIN|-1|2|24|MAX MIN|-1|7|MAX = UNKNOWN");
        run("21 4 bits 0 .. 3: each PAGE", "block 0..3 1 0 0 0 0; ofArticle * 4 = 1 2 4 8");
        run("21 4 a HEAD without TEXTS has its PAGE", "block 3 0 0 0 0 0; ofArticle 0 * = 0 1 0 0 8 0 0");
        run("21 4 a PICTURE has none", stories(2) + "block 0 2 0 0 20 20; block 3 2 0 0 0 0; ofArticle * 4 = 1 2");
        run("21 4 all PAGES", stories(4) + link(0, 1) + link(1, 2) + link(2, 3) + "ofArticle 0 4 = 15");
        run("21 2, 3 of all its STORIES, JOINED ones too", stories(2) + "block 0 1 1 1 1 9; words 1 99; words 3 98; words 4 97\n" + link(0, 1) + "ofArticle 0 2 = 3; ofArticle 0 3 = 294");
        run("21 6 its last STORY alone", stories(3) + link(0, 1) + """
            ofArticle 0 6 = 0; mark 3 0 3 99; ofArticle 0 6 = 1; mark 5 0 3 99; ofArticle * 6 = 1 1; unmark 3 0
            ofArticle * 6 = 0 1
            """);
    }

    private static void read() {
        run("22 of each STORY its HEAD, if it has one, then its TEXTS", """
            block 0 1 0 0 0 0; block 1 0 0 1 0 0; block 1 1 1 1 1 1; block 1 1 0 0 1 1; block 1 1 2 2 1 1; block 2 1 0 0 0 0
            mark 0 0 1 5; mark 1 1 0 5; mark 4 0 2 6; mark 5 1 1 6; read 0 * = 0 1 3 2 4 5 -
            """);
        run("22 a HEAD without TEXTS, then no more", "block 0 0 0 0 0 0; read 0 0 = 0; read 0 1..23 = NONE");
        run("22 NONE: it has not so many", stories(1) + "read 0 * = 0 1 -; read 0 3..23 = NONE");
        run("22 OUTSIDE: i (0 .. 23)", stories(1) + "read 0 MIN|-1|24|MAX = OUTSIDE; read 0 23 = NONE");
        run("22 UNKNOWN: r", stories(1) + "read MIN|-1|1|24|MAX 0|23 = UNKNOWN");
        run("22 UNKNOWN, then OUTSIDE", stories(1) + "read MIN|-1|1|24|MAX MIN|-1|24|MAX = UNKNOWN");
        run("22 PICTURES are not read", stories(1) + "block 0 2 0 0 10 10; read 0 * = 0 1 - -");
        run("22 24 BLOCKS, the most", chainOfAll() + """
            read 0 0 = 0; read 0 22 = 22; read 0 23 = 23; read 0 24 = OUTSIDE
            """);
    }

    /** Twelve HEADS with a TEXT each, all one ARTICLE. */
    private static String chainOfAll() {
        StringBuilder rows = new StringBuilder();
        for (int s = 0; s < 12; s++) {
            int column = s / 4 * 2;
            rows.append("block ").append(s % 4).append(" 0 ").append(column).append(' ').append(column).append(" 0 0\n");
            rows.append("block ").append(s % 4).append(" 1 ").append(column).append(' ').append(column).append(" 1 9\n");
        }
        for (int s = 0; s < 11; s++) {
            rows.append("mark ").append(2 * s + 1).append(" 0 ").append((s + 1) % 4).append(' ').append(s).append('\n');
            rows.append("mark ").append(2 * s + 2).append(" 1 ").append(s % 4).append(' ').append(s).append('\n');
        }
        return rows.toString();
    }

    private static void many() {
        run("23 OUTSIDE: what", "many MIN|-1|12|MAX = OUTSIDE; many 0 = 0; many 11 = 0");
        run("23 OUTSIDE: what, when there is much", stories(4) + """
            many MIN|-1|12|MAX = OUTSIDE; many 0 = 8; many 11 = 0
            """);
        run("23 0 BLOCKS, 2 HEADS, 3 TEXTS: each KIND by itself", THREE + "many * = 3 0 1 1 1 0 0 1 0 0 0 0");
        run("23 1 LINES alone", "line 0 0 1 0 0; many * = 0 1 0 0 0 0 0 0 0 0 0 0");
        run("23 a HEAD alone", "block 0 0 0 0 0 0; many * = 1 0 1 0 1 0 0 1 0 0 0 0");
        run("23 a TEXT alone: LEFT OVER", "block 0 1 0 0 0 0; many * = 1 0 0 1 1 0 1 1 0 0 0 0");
        run("23 a PICTURE alone: UNDER no HEAD", "block 0 2 0 0 0 0; many * = 1 0 0 0 0 0 0 0 0 0 0 1");
        run("23 5 JOINED, 6 LEFT OVER: each by itself", """
            block 0 0 0 0 0 0; block 0 1 0 0 1 1; block 0 1 1 1 1 1; block 0 1 3 3 1 1; many * = 4 0 1 3 2 1 1 2 0 0 0 0
            """);
        run("23 11 PICTURES UNDER no HEAD: ahead of the HEAD, behind a LINE, on another PAGE", """
            block 0 0 0 0 10 10; block 0 2 0 0 9 9; block 0 2 0 0 20 20; block 1 2 0 0 20 20; many 11 = 2; line 0 1 20 0 0; many 11 = 3
            """);
        run("23 11 24 PICTURES", picturesAll() + "many 11 = 24; many 0 = 24; many 4 = 0; many 7 = 0");
    }

    private static String picturesAll() {
        return heads(24).replace(" 0 0\n", " 29 29\n").replaceAll("block (\\d) 0", "block $1 2");
    }

    private static void idleMarks() {
        run("23 10 marks FROM, not ONWARD", stories(1) + """
            mark 1 0 3 3; many 10 = 0; mark 1 1 3 3; many 10 = 1; mark 0 1 3 3; many 10 = 2
            """);
        run("23 10 of STORIES to which none is LINKED: each mark counts", stories(3) + "mark 0..5 1 3 3; many 10 = 6");
        run("23 10 of a STORY to which one is LINKED no mark counts, whichever it is", stories(2) + link(0, 1) + """
            many 10 = 0; mark 3 1 3 3; many 10 = 0; mark 0 1 3 3; many 10 = 1
            """);
        run("23 10 one that is LINKED onward alone counts", stories(2) + link(0, 1) + """
            mark 1 1 3 3; many 10 = 1; unmark 2 1; many 10 = 1; unmark 1 1; many 10 = 0
            """);
        run("23 10 itself as its AIM: none is LINKED to it", stories(1) + "mark 1 0 0 5; mark 0 1 0 5; many 10 = 1");
        run("23 10 on one that is JOINED, on one that is LEFT OVER", """
            block 0 0 0 0 0 0; block 0 1 0 0 1 1; block 0 1 1 1 1 1; block 0 1 3 3 1 1; mark 2..3 1 3 3; many 10 = 2
            """);
        run("23 10 in a RING none counts", stories(2) + link(0, 1) + link(1, 0) + """
            many 10 = 0; unmark 3 0; many 10 = 1
            """);
        run("23 10 the most", textsAll().replace(" 0 3 50", " 1 3 50") + "many 10 = 24; back = 23; many 10 = 23");
    }

    private static void asWhenAsked() {
        run("16 as marks are when it is asked", stories(2) + link(0, 1) + """
            ofStory 0 5 = 1; unmark 1 0 = 1; ofStory 0 5 = NONE; mark 1 0 1 1 = 0; ofStory 0 5 = 1; mark 1 0 1 2 = 1
            ofStory 0 5 = NONE
            """);
        run("16 as BLOCKS are when it is asked: the one with the mark goes", stories(1) + """
            block 1 1 0 0 0 0; mark 1 0 1 5; mark 2 1 0 5; ofStory 0 5 = 1; back = 2; ofStory 0 5 = NONE; ofStory 0 8 = 1
            block 1 1 0 0 0 0; ofStory 0 5 = NONE; mark 2 1 0 5 = 0; ofStory 0 5 = 1
            """);
        run("16 as LINES are when it is asked", """
            block 0 0 0 0 0 0; block 0 1 0 0 1 1; block 0 1 1 1 1 1; block 1 0 0 0 0 0; mark 2 0 1 5; mark 3 1 0 5; ofStory 0 5 = 1
            line 0 0 1 1 1; ofStory 0 5 = NONE; ofStory 1 5 = 2; erase = 0; ofStory 0 5 = 1
            """);
        run("21 as all is when it is asked: turned", """
            block 0 0 0 0 0 0; block 0 1 0 0 1 1; block 0 1 1 1 1 1; block 1 0 0 0 0 0; mark 2 0 1 5; mark 3 1 0 5
            read 0 * = 0 1 2 3 -; turn = 4; many 7 = 2; read 0 * = 0 1 -; read 1 * = 2 3 -; turn = 4; read 0 * = 0 1 2 3 -
            """);
        run("21 as WORDS are when it is asked", stories(1) + """
            ofArticle 0 3 = 1; words 1 99; ofArticle 0 3 = 99; words 1 1; ofArticle 0 3 = 1
            """);
        run("21 clear", stories(2) + link(0, 1) + "many 7 = 1; clear = 4; many 0..11 = 0; ofArticle 0 0 = UNKNOWN\n" + stories(2) + "ofStory 0..1 5..6 = NONE; many 9..10 = 0");
    }
}
