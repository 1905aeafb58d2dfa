/** Promises 11 and 15: how wide parts of words are, and which glyphs their letters become. */
public final class WordsTest {
    private static final Due DUE = new Due("WordsTest");
    private static final int LEAST = Integer.MIN_VALUE;
    private static final int MOST = Integer.MAX_VALUE;

    /** "The width of the part of a word from place from to before place to": one letter, some, all. */
    private static void spanOfLetters() {
        GalleyDesk desk = Desks.with("012 3/45");
        for (int i = 0; i < 6; i++) {
            desk.width(i, 20 + i);
        }
        DUE.is("11: the first letter", desk.span(0, 1), 20);
        DUE.is("11: the last letter", desk.span(7, 8), 25);
        DUE.is("11: two letters", desk.span(1, 3), 43);
        DUE.is("11: a word", desk.span(0, 3), 63);
        DUE.is("11: a word of one letter", desk.span(4, 5), 23);
        DUE.is("11: the last word", desk.span(6, 8), 49);
        DUE.is("11: the full text", Desks.with("0".repeat(48)).span(0, 48), 480);
        DUE.is("11: its last letter", Desks.with("0".repeat(48)).span(47, 48), 10);
    }

    /** "-1 if this is not a row of one or more letters": none, or fewer than none. */
    private static void spanOfNoLetter() {
        GalleyDesk desk = Desks.with("012 3/45");
        int[][] wrong = {{0, 0}, {1, 1}, {8, 8}, {1, 0}, {3, 0}, {8, 7}, {3, 3}, {MOST, LEAST}, {MOST, MOST},
            {LEAST, LEAST}, {2, LEAST}, {MOST, 2}};
        for (int[] w : wrong) {
            DUE.is("11: span " + w[0] + " " + w[1], desk.span(w[0], w[1]), -1);
        }
    }

    /** "-1 if this is not a row of ... letters": a 10 or 11 before, among or behind them. */
    private static void spanOverOtherCodes() {
        GalleyDesk desk = Desks.with("012 3/45");
        int[][] wrong = {{3, 4}, {5, 6}, {3, 5}, {5, 7}, {0, 4}, {4, 6}, {2, 5}, {4, 7}, {0, 8}};
        for (int[] w : wrong) {
            DUE.is("11: span " + w[0] + " " + w[1], desk.span(w[0], w[1]), -1);
        }
    }

    /** "-1 if this is not a row of ... letters of the text": before its beginning or behind its end. */
    private static void spanOutsideTheText() {
        GalleyDesk desk = Desks.with("012 3/45");
        int[][] wrong = {{-1, 0}, {-1, 1}, {-1, 3}, {7, 9}, {8, 9}, {6, 48}, {47, 48}, {48, 49}, {0, MOST}, {7, MOST},
            {LEAST, 1}, {LEAST, MOST}};
        for (int[] w : wrong) {
            DUE.is("11: span " + w[0] + " " + w[1], desk.span(w[0], w[1]), -1);
        }
        GalleyDesk full = Desks.with("0".repeat(48));
        DUE.is("11: behind the full text", full.span(47, 49), -1);
        DUE.is("11: before the full text", full.span(-1, 48), -1);
        GalleyDesk empty = new GalleyDesk();
        DUE.is("11: the empty text", empty.span(0, 0), -1);
        DUE.is("11: the empty text", empty.span(0, 1), -1);
    }

    /** "at first each letter is one" */
    private static void eachLetterIsAGlyph() {
        GalleyDesk desk = Desks.with("0123456789");
        DUE.is("15: each letter", Desks.glyphs(desk), "0 1 2 3 4 5 6 7 8 9");
        desk.ligature(4, 5, 0);
        DUE.is("11: one letter has nothing to join", desk.span(4, 5), 10);
    }

    /** "both become the one glyph z, which stays at work": as long as it joins with the next. */
    private static void ligaturesStayAtWork() {
        GalleyDesk desk = Desks.with("0112");
        desk.width(3, 23);
        desk.width(5, 15);
        desk.ligature(0, 1, 3);
        desk.ligature(3, 1, 5);
        DUE.is("11: joined once", desk.span(0, 2), 23);
        DUE.is("11: joined twice", desk.span(0, 3), 15);
        DUE.is("11: and one behind", desk.span(0, 4), 25);
        DUE.is("11: without its beginning", desk.span(1, 4), 30);
        DUE.is("15: all letters of the glyph", Desks.glyphs(desk), "5 5 5 2");
        GalleyDesk turns = Desks.with("01111");
        turns.ligature(0, 1, 1);
        turns.ligature(1, 1, 0);
        DUE.is("15: four times", Desks.glyphs(turns), "0 0 0 0 0");
        DUE.is("11: three times", turns.span(0, 4), 10);
    }

    /** A ligature may take in all letters of the longest word. */
    private static void theLongestLigature() {
        GalleyDesk desk = Desks.with("0".repeat(48));
        desk.ligature(0, 0, 0);
        DUE.is("11: one glyph", desk.span(0, 48), 10);
        DUE.is("15: its last letter", desk.glyph(47), 0);
        DUE.is("16: its last letter", desk.position(47), 0);
        DUE.is("14: its line", Desks.shown(desk), "0-48:10:0");
    }

    /** "otherwise the one behind it is at work next": what becomes of that joins with nothing before it. */
    private static void ligaturesAreNotSoughtBackwards() {
        GalleyDesk desk = Desks.with("011");
        desk.ligature(1, 1, 0);
        desk.ligature(0, 0, 4);
        DUE.is("11: two glyphs", desk.span(0, 3), 20);
        DUE.is("15: two glyphs", Desks.glyphs(desk), "0 0 0");
        GalleyDesk greedy = Desks.with("012");
        greedy.ligature(0, 1, 5);
        greedy.ligature(1, 2, 6);
        DUE.is("15: from the first on", Desks.glyphs(greedy), "5 5 2");
        DUE.is("11: from the second on", greedy.span(1, 3), 10);
    }

    /** "The letters of a part of a word become glyphs": none goes over a 10, an 11 or a line's end. */
    private static void ligaturesEndWithTheirPart() {
        GalleyDesk desk = Desks.with("0 1/0  1 0/1 01");
        desk.ligature(0, 1, 7);
        DUE.is("15: in one word", Desks.glyphs(desk), "0 -1 1 -1 0 -1 -1 1 -1 0 -1 1 -1 7 7");
        GalleyDesk broken = Desks.with("0123");
        broken.ligature(1, 2, 9);
        broken.pattern(1, 2, -1, 10);
        DUE.is("15: on one line", Desks.glyphs(broken), "0 9 9 3");
        broken.measure(25, 25, 0);
        DUE.is("14: two lines", Desks.shown(broken), "0-2:25:0- 2-4:20:0");
        DUE.is("15: on two lines", Desks.glyphs(broken), "0 1 2 3");
        DUE.is("11: span knows no lines", broken.span(0, 4), 30);
    }

    /** "plus, for each two neighbours x y, their KERN": of glyphs, and none for a glyph alone. */
    private static void kernsAreThoseOfGlyphs() {
        GalleyDesk desk = Desks.with("0120");
        desk.ligature(1, 2, 5);
        desk.kern(0, 1, -5);
        desk.kern(1, 2, -5);
        desk.kern(2, 0, -5);
        desk.kern(0, 5, 3);
        desk.kern(5, 0, 4);
        DUE.is("11: a letter alone", desk.span(0, 1), 10);
        DUE.is("11: kern of the letters", desk.span(0, 2), 15);
        DUE.is("11: the ligature alone", desk.span(1, 3), 10);
        DUE.is("11: kern before the ligature", desk.span(0, 3), 23);
        DUE.is("11: kern behind the ligature", desk.span(1, 4), 24);
        DUE.is("11: both", desk.span(0, 4), 37);
        GalleyDesk twins = Desks.with("000");
        twins.kern(0, 0, -5);
        DUE.is("11: two kerns of three", twins.span(0, 3), 20);
    }

    /** Neighbours stand in one part: a kern goes neither over a space nor over a line's end. */
    private static void kernsEndWithTheirPart() {
        GalleyDesk desk = Desks.with("00 00");
        desk.kern(0, 0, 5);
        DUE.is("14: over no space", Desks.shown(desk), "0-5:56:0");
        desk.measure(25, 25, 0);
        DUE.is("14: over no line's end", Desks.shown(desk), "0-2:25:0 3-5:25:0");
        GalleyDesk broken = Desks.with("0000");
        broken.kern(0, 0, 5);
        broken.pattern(0, -1, -1, 1);
        broken.measure(30, 30, 0);
        DUE.is("14: nor over a hyphen", Desks.shown(broken), "0-2:30:0- 2-4:25:0");
        DUE.is("16: nor over a hyphen", Desks.positions(broken), "0 15 0 15");
    }

    /** "-1 if there is no letter at that place": 10, 11, and all outside the text. */
    private static void glyphNeedsALetter() {
        GalleyDesk desk = Desks.with(" 7/8");
        DUE.is("15: a letter", desk.glyph(1), 7);
        DUE.is("15: the last letter", desk.glyph(3), 8);
        int[] wrong = {-1, 0, 2, 4, 47, 48, LEAST, MOST};
        for (int i : wrong) {
            DUE.is("15: glyph " + i, desk.glyph(i), -1);
        }
        GalleyDesk full = Desks.with("9".repeat(48));
        DUE.is("15: the first of the full text", full.glyph(0), 9);
        DUE.is("15: the last of the full text", full.glyph(47), 9);
        DUE.is("15: behind the full text", full.glyph(48), -1);
        DUE.is("15: before the full text", full.glyph(-1), -1);
        DUE.is("15: the empty text", new GalleyDesk().glyph(0), -1);
    }

    /** A question changes nothing, though all of them shape words. */
    private static void questionsChangeNothing() {
        GalleyDesk desk = Desks.with("00 00 00 00 0000");
        String before = Desks.everything(Desks.with("00 00 00 00 0000"));
        desk.span(3, 5);
        desk.position(9);
        desk.span(12, 14);
        desk.glyph(0);
        desk.hyphen(3);
        desk.line(9, 9);
        desk.demerits(7);
        DUE.is("11 to 17: the same", Desks.everything(desk), before);
    }

    public static void main(String[] args) {
        spanOfLetters();
        spanOfNoLetter();
        spanOverOtherCodes();
        spanOutsideTheText();
        eachLetterIsAGlyph();
        ligaturesStayAtWork();
        theLongestLigature();
        ligaturesAreNotSoughtBackwards();
        ligaturesEndWithTheirPart();
        kernsAreThoseOfGlyphs();
        kernsEndWithTheirPart();
        glyphNeedsALetter();
        questionsChangeNothing();
        DUE.end();
    }
}
