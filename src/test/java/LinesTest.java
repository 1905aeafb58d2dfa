/** Promises 13, 14, 16 and 17: the lines, what is told of them, the places on them, and their demerits. */
public final class LinesTest {
    private static final Due DUE = new Due("LinesTest");
    private static final int LEAST = Integer.MIN_VALUE;
    private static final int MOST = Integer.MAX_VALUE;
    /** (10 + 10000)^2 */
    private static final long WORST = 100200100;

    private static void paragraphsWithoutWordsDoNotCount() {
        GalleyDesk empty = Desks.with("/ //  /");
        DUE.is("13: no words", empty.lines(), 0);
        DUE.is("17: no words", empty.demerits(0), -2);
        GalleyDesk desk = Desks.with("/ 0//  /1 1/");
        DUE.is("13: two paragraphs", Desks.shown(desk), "2-3:10:0 8-11:26:0");
        DUE.is("14: the first", desk.line(0, 5), 0);
        DUE.is("14: the second", desk.line(1, 5), 1);
        DUE.is("17: the second", desk.demerits(1), 100);
        DUE.is("17: no third", desk.demerits(2), -2);
    }

    private static void spacesInARowAreOne() {
        DUE.is("14: spaces around and between", Desks.shown(Desks.with("  0   0  ")), "2-7:26:0");
        GalleyDesk desk = Desks.with("00   00");
        desk.measure(20, 20, 0);
        DUE.is("14: a break among spaces", Desks.shown(desk), "0-2:20:0 5-7:20:0");
    }

    private static void thereIsNoSuchLine() {
        GalleyDesk desk = Desks.with("0 0");
        int[][] wrong = {{-1, 0}, {1, 0}, {0, -1}, {0, 7}, {0, 8}, {LEAST, 0}, {MOST, 0}, {0, LEAST}, {0, MOST},
            {536870912, 0}};
        for (int[] w : wrong) {
            DUE.is("14: line " + w[0] + " " + w[1], desk.line(w[0], w[1]), -1);
        }
        int[] none = {-1, 1, LEAST, MOST};
        for (int p : none) {
            DUE.is("17: demerits " + p, desk.demerits(p), -2);
        }
    }

    private static void badnessHasItsEdges() {
        GalleyDesk exact = Desks.with("00 00");
        exact.measure(20, 20, 0);
        exact.rules(0, 0, 6);
        DUE.is("14: d is 0 without spaces", Desks.shown(exact), "0-2:20:0 3-5:20:0");
        DUE.is("17: d is 0 without spaces", exact.demerits(0), 200);
        GalleyDesk shrunk = Desks.with("00 00");
        shrunk.measure(44, 44, 0);
        DUE.is("14: all that spaces can shrink", Desks.shown(shrunk), "0-5:46:100");
        // Class 0 differs from the 1 before the first line by no more than 1.
        DUE.is("17: all that spaces can shrink", shrunk.demerits(0), 12100);
        shrunk.measure(43, 43, 0);
        DUE.is("14: one less is overfull", Desks.shown(shrunk), "0-2:20:10000 3-5:20:0");
        GalleyDesk far = new GalleyDesk();
        far.width(1, 6);
        far.width(2, 30);
        far.glue(1, 20, 0);
        far.rules(10000, 0, 6);
        far.measure(300, 300, 0);
        Desks.put(far, "1 1 2222222222");
        // 100 * 287^3 is more than an int holds.
        DUE.is("14: at most 10000", Desks.shown(far), "0-3:13:10000 4-14:300:0");
        DUE.is("17: at most 10000", far.demerits(0), WORST + 2000 + 100 + 2000);
    }

    private static void classesDifferByMoreThanOne() {
        GalleyDesk desk = Desks.with("00 00 000");
        desk.rules(10000, 0, 6);
        int[][] stretched = {{12, 52, 12}, {12, 53, 19}, {6, 52, 100}, {7, 52, 62}};
        long[] due = {22 * 22 + 100, 29 * 29 + 100, 110 * 110 + 4000 + 100, 72 * 72 + 100};
        for (int i = 0; i < stretched.length; i++) {
            desk.glue(6, stretched[i][0], 0);
            desk.measure(stretched[i][1], stretched[i][1], 0);
            DUE.is("14: badness " + i, desk.line(0, 3), stretched[i][2]);
            DUE.is("17: classes " + i, desk.demerits(0), due[i]);
        }
    }

    private static void classesJumpFromTightToLoose() {
        GalleyDesk desk = Desks.with("00 00 00 1 000");
        desk.width(1, 14);
        desk.glue(6, 6, 6);
        desk.measure(42, 42, 0);
        desk.rules(10000, 0, 6);
        // 46 in 42: 100 * 4^3 / 6^3 = 29 and class 0; 40 in 42: 100 * 2^3 / 6^3 = 3 and class 1.
        DUE.is("14: tight, then nearly right", Desks.shown(desk), "0-5:46:29 6-10:40:3 11-14:30:0");
        DUE.is("17: no jump", desk.demerits(0), 39 * 39 + 13 * 13 + 100);
        desk.width(1, 12);
        // 38 in 42: badness 29 and class 2, two above the class 0 of the line before.
        DUE.is("14: tight, then loose", Desks.shown(desk), "0-5:46:29 6-10:38:29 11-14:30:0");
        DUE.is("17: a jump", desk.demerits(0), 39 * 39 + 39 * 39 + 2000 + 100);
        GalleyDesk edge = Desks.with("00 00 00 00 00 00 0000");
        edge.glue(6, 9, 0);
        edge.measure(55, 112, 1);
        // 46 in 55 is class 3; 98 in 112: 100 * 14^3 / 27^3 = 13 is already class 2.
        DUE.is("14: badness 13", Desks.shown(edge), "0-5:46:100 6-17:98:13 18-22:40:0");
        DUE.is("17: badness 13", edge.demerits(0), 110 * 110 + 2000 + 23 * 23 + 100);
    }

    private static void hyphensCost() {
        GalleyDesk desk = Desks.with("000000000000000000");
        desk.pattern(0, -1, -1, 1);
        desk.measure(65, 65, 0);
        DUE.is("14: hyphens", Desks.shown(desk), "0-6:65:0- 6-12:65:0- 12-18:60:0");
        DUE.is("17: two in a row", desk.demerits(0), 100 + 2500 + 100 + 2500 + 3000 + 100);
        desk.rules(200, 0, 6);
        DUE.is("17: without cost", desk.demerits(0), 100 + 100 + 3000 + 100);
        desk.measure(65, 300, 2);
        DUE.is("14: two first lines", Desks.shown(desk), "0-6:65:0- 6-12:65:0- 12-18:60:0");
        desk.measure(65, 300, 1);
        DUE.is("14: one first line", Desks.shown(desk), "0-6:65:0- 6-18:120:0");
    }

    private static void laterBreaksWinATie() {
        GalleyDesk desk = Desks.with("0 0 0");
        desk.glue(6, 0, 2);
        desk.rules(10000, 0, 6);
        desk.measure(30, 30, 0);
        DUE.is("13: of two ways", Desks.shown(desk), "0-3:26:10000 4-5:10:0");
        DUE.is("17: of two ways", desk.demerits(0), WORST + 2000 + 100 + 2000);
        Desks.put(desk, " 0 0");
        DUE.is("13: of three ways", Desks.shown(desk), "0-3:26:10000 4-7:26:10000 8-9:10:0");
    }

    private static void breaksFurtherBackDecideATie() {
        GalleyDesk desk = Desks.with("2 2 0011111 2222222");
        desk.pattern(0, 1, -1, 10);
        desk.glue(6, 0, 0);
        desk.rules(10000, 10, 6);
        desk.measure(60, 70, 2);
        // As good, with the same break before the last line, is a way of four lines: 0-1 2-3 4-11 12-19.
        DUE.is("13: fewer lines", Desks.shown(desk), "0-6:57:10000- 6-11:50:10000 12-19:70:0");
        DUE.is("17: fewer lines", desk.demerits(0), 2 * WORST + 2000 + 100 + 2000 + 100);
    }

    private static void emergencyTakesTheLastThatFits() {
        GalleyDesk desk = Desks.with("0000 0000");
        desk.ligature(0, 0, 0);
        desk.width(0, 16);
        desk.pattern(0, -1, -1, 1);
        desk.measure(20, 20, 0);
        // To the hyphen at 2 the line would be 21 wide, to the word's end it is 16 wide.
        DUE.is("13: behind an overfull one", Desks.shown(desk), "0-4:16:10000 5-9:16:0");
        DUE.is("17: emergency", desk.demerits(0), -1);
        desk.ligature(0, 0, -1);
        DUE.is("13: the next where none fits", Desks.shown(desk), "0-2:37:-1- 2-4:32:-1 5-7:37:-1- 7-9:32:-1");
        GalleyDesk between = Desks.with("0 0000 0000");
        between.ligature(0, 0, 0);
        between.width(0, 16);
        between.pattern(0, -1, -1, 1);
        between.measure(40, 40, 0);
        between.rules(0, 0, 6);
        // 16 to the first word's end, 43 to the hyphen behind it, 38 to the second word's end.
        DUE.is("13: behind an overfull one in between", Desks.shown(between), "0-6:38:29 7-11:16:0");
        DUE.is("17: badness 29 is not tolerated", between.demerits(0), -1);
        GalleyDesk first = Desks.with("000 000 000/0");
        first.measure(36, 66, 1);
        DUE.is("13: line by line as wide as due", Desks.shown(first), "0-3:30:10000 4-11:66:0 12-13:10:0");
        DUE.is("17: of this paragraph", first.demerits(0), -1);
        DUE.is("17: not of the other", first.demerits(1), 100);
    }

    private static void longestParagraph() {
        GalleyDesk desk = Desks.with("0".repeat(48));
        desk.pattern(0, -1, -1, 11);
        desk.measure(20, 20, 0);
        DUE.is("13: one letter a line", desk.lines(), 46);
        DUE.is("14: the first", desk.line(0, 3), -1);
        DUE.is("14: the second", desk.line(1, 1), 3);
        DUE.is("14: the last", desk.line(45, 0), 46);
        DUE.is("14: the last", desk.line(45, 1), 48);
        desk.width(0, 6);
        desk.rules(10000, 0, 1);
        DUE.is("13: two letters a line", desk.lines(), 24);
        DUE.is("14: pages", desk.line(23, 6), 23);
        DUE.is("17: the sum", desk.demerits(0), 23 * WORST + 22 * 3000 + 2000 + 100 + 2000);
        GalleyDesk words = Desks.with("0/".repeat(24));
        DUE.is("13: one word a paragraph", words.lines(), 24);
        DUE.is("17: the last of them", words.demerits(23), 100);
        DUE.is("17: no more", words.demerits(24), -2);
    }

    private static String positions(GalleyDesk desk, int length) {
        StringBuilder all = new StringBuilder();
        for (int i = 0; i < length; i++) {
            all.append(i == 0 ? "" : " ").append(desk.position(i));
        }
        return all.toString();
    }

    private static void spacesShareWhatIsOver() {
        // e is 2 with three spaces: 6, 7 and 7 wide; the last line is not stretched.
        DUE.is("16: stretched", positions(Desks.with("00 00 00 00 00 00"), 17),
            "0 10 -1 26 36 -1 53 63 -1 80 90 -1 0 10 -1 26 36");
        GalleyDesk desk = new GalleyDesk();
        desk.width(1, 14);
        Desks.put(desk, "00 00 00 01 0000");
        // e is -2 with three spaces, and parts of it are cut towards 0: 6, 5 and 5 wide.
        DUE.is("16: shrunk", positions(desk, 12), "0 10 -1 26 36 -1 51 61 -1 76 86 -1");
        DUE.is("16: the last line shrinks too", positions(Desks.with("000 000 000"), 11),
            "0 10 20 -1 35 45 55 -1 70 80 90");
    }

    private static void glyphsFollowEachOther() {
        GalleyDesk desk = Desks.with("0123");
        desk.kern(0, 1, -4);
        desk.kern(1, 2, 5);
        DUE.is("16: kerns", positions(desk, 4), "0 6 21 31");
        desk.ligature(1, 2, 7);
        desk.kern(0, 7, 2);
        desk.kern(7, 3, -1);
        DUE.is("16: a ligature", positions(desk, 4), "0 12 12 21");
        desk.pattern(1, 2, -1, 10);
        desk.measure(21, 21, 0);
        DUE.is("16: a hyphen", positions(desk, 4), "0 6 0 10");
    }

    private static void positionNeedsALetter() {
        GalleyDesk desk = Desks.with(" 7/8");
        DUE.is("16: a letter", desk.position(1), 0);
        DUE.is("16: the last letter", desk.position(3), 0);
        int[] wrong = {-1, 0, 2, 4, 47, 48, LEAST, MOST};
        for (int i : wrong) {
            DUE.is("16: position " + i, desk.position(i), -1);
        }
    }

    private static void asksChangeNothing() {
        GalleyDesk desk = Desks.with("00 00 00 00 0000");
        String before = Desks.shown(desk);
        DUE.is("11: span", desk.span(3, 5), 20);
        DUE.is("16: behind span", desk.position(9), 80);
        desk.hyphen(3);
        DUE.is("13: the same", Desks.shown(desk), before);
    }

    public static void main(String[] args) {
        paragraphsWithoutWordsDoNotCount();
        spacesInARowAreOne();
        thereIsNoSuchLine();
        badnessHasItsEdges();
        classesDifferByMoreThanOne();
        classesJumpFromTightToLoose();
        hyphensCost();
        laterBreaksWinATie();
        breaksFurtherBackDecideATie();
        emergencyTakesTheLastThatFits();
        longestParagraph();
        spacesShareWhatIsOver();
        glyphsFollowEachOther();
        positionNeedsALetter();
        asksChangeNothing();
        DUE.end();
    }
}
