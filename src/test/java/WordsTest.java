/** Promises 11, 12 and 15: how wide parts of words are, where hyphens may stand, which glyphs letters become. */
public final class WordsTest {
    private static final Due DUE = new Due("WordsTest");
    private static final int LEAST = Integer.MIN_VALUE;
    private static final int MOST = Integer.MAX_VALUE;

    private static void spanNeedsLetters() {
        GalleyDesk desk = Desks.with("01 2/34");
        DUE.is("11: one letter", desk.span(0, 1), 10);
        DUE.is("11: a word", desk.span(0, 2), 20);
        DUE.is("11: the last word", desk.span(5, 7), 20);
        int[][] wrong = {{0, 0}, {1, 0}, {-1, 1}, {2, 3}, {0, 3}, {1, 4}, {4, 5}, {3, 6}, {6, 8}, {7, 8}, {7, 7},
            {LEAST, MOST}, {MOST, LEAST}, {0, MOST}, {LEAST, 1}, {MOST, MOST}};
        for (int[] w : wrong) {
            DUE.is("11: span " + w[0] + " " + w[1], desk.span(w[0], w[1]), -1);
        }
    }

    private static void ligaturesStayAtWork() {
        GalleyDesk desk = Desks.with("0112 0000");
        desk.width(3, 23);
        desk.width(5, 15);
        desk.ligature(0, 1, 3);
        desk.ligature(3, 1, 5);
        DUE.is("11: joined once", desk.span(0, 2), 23);
        DUE.is("11: joined twice", desk.span(0, 3), 15);
        DUE.is("11: and one behind", desk.span(0, 4), 25);
        DUE.is("11: without its beginning", desk.span(1, 4), 30);
        DUE.is("15: first letter", desk.glyph(0), 5);
        DUE.is("15: last letter of the glyph", desk.glyph(2), 5);
        DUE.is("15: letter behind", desk.glyph(3), 2);
        desk.ligature(0, 0, 0);
        DUE.is("11: all in one", desk.span(5, 9), 10);
    }

    private static void ligaturesAreNotSoughtBackwards() {
        GalleyDesk desk = Desks.with("011");
        desk.ligature(1, 1, 0);
        desk.ligature(0, 0, 4);
        DUE.is("11: two glyphs", desk.span(0, 3), 20);
        DUE.is("15: the first stays", desk.glyph(0), 0);
        DUE.is("15: the second is joined", desk.glyph(2), 0);
    }

    private static void kernsAreThoseOfGlyphs() {
        GalleyDesk desk = Desks.with("012");
        desk.ligature(1, 2, 5);
        desk.kern(0, 1, -5);
        desk.kern(0, 5, 3);
        DUE.is("11: kern of the letters", desk.span(0, 2), 15);
        DUE.is("11: kern of the glyphs", desk.span(0, 3), 23);
    }

    private static void glyphsEndWithTheLine() {
        GalleyDesk desk = Desks.with("0123 1 2");
        desk.ligature(1, 2, 9);
        desk.pattern(1, 2, -1, 10);
        DUE.is("15: on one line", desk.glyph(1), 9);
        DUE.is("15: on one line", desk.glyph(2), 9);
        DUE.is("15: not over a space", desk.glyph(5), 1);
        DUE.is("15: not over a space", desk.glyph(7), 2);
        desk.measure(25, 25, 0);
        DUE.is("15: lines", Desks.shown(desk), "0-2:25:0- 2-4:20:10000 5-8:26:12");
        DUE.is("15: before the hyphen", desk.glyph(1), 1);
        DUE.is("15: behind the hyphen", desk.glyph(2), 2);
    }

    private static void glyphNeedsALetter() {
        GalleyDesk desk = Desks.with(" 7/8");
        DUE.is("15: a letter", desk.glyph(1), 7);
        DUE.is("15: the last letter", desk.glyph(3), 8);
        int[] wrong = {-1, 0, 2, 4, 47, 48, LEAST, MOST};
        for (int i : wrong) {
            DUE.is("15: glyph " + i, desk.glyph(i), -1);
        }
    }

    private static String hyphens(GalleyDesk desk) {
        StringBuilder all = new StringBuilder();
        for (int i = 0; i < 48; i++) {
            all.append(desk.hyphen(i) ? (all.length() == 0 ? "" : " ") + i : "");
        }
        return all.toString();
    }

    private static void hyphensNeedTwoLetters() {
        GalleyDesk desk = Desks.with("000 0000 00000/0 00");
        desk.pattern(0, -1, -1, 11);
        DUE.is("12: two before and two behind", hyphens(desk), "6 11 12");
        int[] wrong = {-1, 3, 8, 14, 19, 47, 48, LEAST, MOST};
        for (int i : wrong) {
            DUE.no("12: hyphen " + i, desk.hyphen(i));
        }
    }

    private static void digitsStandInTheirOrder() {
        int[] digits = {1000, 100, 10, 1};
        for (int i = 0; i < digits.length; i++) {
            GalleyDesk desk = Desks.with("9901299");
            desk.pattern(0, 1, 2, digits[i]);
            DUE.is("12: digits " + digits[i], hyphens(desk), "" + (2 + i));
        }
    }

    private static void theGreatestDigitCounts() {
        GalleyDesk desk = Desks.with("20122");
        desk.pattern(0, 1, -1, 10);
        DUE.is("12: odd", hyphens(desk), "2");
        desk.pattern(2, 0, 1, 20);
        DUE.is("12: a greater even one", hyphens(desk), "");
        desk.pattern(0, 1, 2, 300);
        DUE.is("12: a still greater odd one", hyphens(desk), "2");
        desk.pattern(1, -1, -1, 80);
        DUE.is("12: a still greater even one", hyphens(desk), "");
        desk.pattern(0, -1, -1, 9);
        DUE.is("12: nine", hyphens(desk), "2");
    }

    private static void patternsMeetEverywhere() {
        GalleyDesk desk = Desks.with("0000000");
        desk.pattern(0, 0, 0, 100);
        // It meets at 0 to 4, so that its digit stands at 1 to 5.
        DUE.is("12: overlapping", hyphens(desk), "2 3 4 5");
        GalleyDesk words = Desks.with("9 09 1999");
        words.pattern(0, 9, -1, 999);
        DUE.is("12: not over a space", hyphens(words), "");
    }

    private static void patternsMeetBeginningsAndEnds() {
        GalleyDesk begin = Desks.with("0122 20122/0122");
        begin.pattern(10, 0, 1, 1);
        DUE.is("12: at the beginning", hyphens(begin), "2 13");
        GalleyDesk end = Desks.with("2201 22012/2201");
        end.pattern(0, 1, 10, 1000);
        DUE.is("12: at the end", hyphens(end), "2 13");
        GalleyDesk nowhere = Desks.with("9900 0099");
        nowhere.pattern(10, 0, -1, 100);
        nowhere.pattern(0, 10, -1, 1);
        DUE.is("12: outside of the word", hyphens(nowhere), "");
        GalleyDesk whole = Desks.with("0 0000");
        whole.pattern(10, 0, 10, 9999);
        DUE.is("12: the whole word", hyphens(whole), "");
        GalleyDesk edge = Desks.with("0111");
        edge.pattern(10, 0, -1, 1);
        DUE.is("12: one letter before", hyphens(edge), "");
    }

    public static void main(String[] args) {
        spanNeedsLetters();
        ligaturesStayAtWork();
        ligaturesAreNotSoughtBackwards();
        kernsAreThoseOfGlyphs();
        glyphsEndWithTheLine();
        glyphNeedsALetter();
        hyphensNeedTwoLetters();
        digitsStandInTheirOrder();
        theGreatestDigitCounts();
        patternsMeetEverywhere();
        patternsMeetBeginningsAndEnds();
        DUE.end();
    }
}
