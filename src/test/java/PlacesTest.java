/** Promise 16: where on its line each glyph begins. */
public final class PlacesTest {
    private static final Due DUE = new Due("PlacesTest");
    private static final int LEAST = Integer.MIN_VALUE;
    private static final int MOST = Integer.MAX_VALUE;

    /** "The first glyph begins at 0": that of each line, behind spaces and hyphens, too. */
    private static void firstGlyphsBeginAtZero() {
        GalleyDesk desk = Desks.with("  00  00/ 0000");
        desk.pattern(0, -1, -1, 1);
        desk.measure(25, 25, 0);
        DUE.is("14: four lines", Desks.shown(desk), "2-4:20:10000 6-8:20:0 10-12:25:0- 12-14:20:0");
        DUE.is("16: four lines", Desks.positions(desk), "-1 -1 0 10 -1 -1 0 10 -1 -1 0 10 0 10");
    }

    /** "each further one where the one before ends, kern or space in between" */
    private static void glyphsFollowEachOther() {
        GalleyDesk desk = Desks.with("0123 01");
        desk.width(0, 30);
        desk.width(1, 6);
        desk.kern(0, 1, -4);
        desk.kern(1, 2, 5);
        DUE.is("16: widths, kerns, a space", Desks.positions(desk), "0 26 37 47 -1 63 89");
    }

    /** "the glyph ... that the letter at place i is, or is part of": all its letters are where it begins. */
    private static void lettersOfALigatureStandTogether() {
        GalleyDesk desk = Desks.with("01213");
        desk.ligature(1, 2, 7);
        desk.ligature(7, 1, 8);
        desk.width(8, 15);
        desk.kern(0, 8, 2);
        desk.kern(8, 3, -1);
        desk.kern(0, 1, 5);
        DUE.is("16: a ligature", Desks.positions(desk), "0 12 12 12 26");
        desk.pattern(2, 1, -1, 10);
        desk.measure(27, 27, 0);
        DUE.is("16: broken by a hyphen", Desks.shown(desk), "0-3:25:10000- 3-5:20:0");
        DUE.is("16: broken by a hyphen", Desks.positions(desk), "0 10 10 0 10");
    }

    private static String positions(int over) {
        GalleyDesk desk = Desks.with("0 0 0 0 0000000");
        desk.measure(58 + over, 300, 1);
        desk.rules(10000, 0, 6);
        return Desks.positions(desk);
    }

    /** "Space number j (from 0 on) is wide + e * (j + 1) / G - e * j / G": e is d if that is above 0. */
    private static void spacesAreWider() {
        String[] due = {"0 -1 16 -1 32 -1 48", "0 -1 16 -1 32 -1 49", "0 -1 16 -1 33 -1 50", "0 -1 17 -1 34 -1 51",
            "0 -1 17 -1 34 -1 52"};
        for (int e = 0; e < due.length; e++) {
            DUE.is("16: e is " + e, positions(e), due[e] + " -1 0 10 20 30 40 50 60");
        }
    }

    /** "(both without fraction, towards 0)": e is d below 0 as far as spaces can shrink. */
    private static void spacesAreNarrower() {
        String[] due = {"0 -1 16 -1 32 -1 48", "0 -1 16 -1 32 -1 47", "0 -1 16 -1 31 -1 46", "0 -1 15 -1 30 -1 45",
            "0 -1 15 -1 30 -1 44", "0 -1 15 -1 29 -1 43", "0 -1 14 -1 28 -1 42"};
        for (int e = 0; e < due.length; e++) {
            DUE.is("16: e is -" + e, positions(-e), due[e] + " -1 0 10 20 30 40 50 60");
        }
    }

    /** "e is d if d is above 0": also if that is far more than the spaces should stretch. */
    private static void spacesAreMuchWider() {
        GalleyDesk desk = Desks.with("0 0 111111111");
        desk.width(1, 30);
        desk.measure(281, 281, 0);
        desk.rules(10000, 0, 6);
        DUE.is("14: far too loose", Desks.shown(desk), "0-3:26:10000 4-13:270:0");
        DUE.is("16: the line is filled", desk.position(2), 271);
        desk.glue(6, 0, 0);
        DUE.is("16: though nothing stretches", desk.position(2), 271);
        desk.rules(0, 0, 6);
        DUE.is("16: in an emergency, too", desk.position(2), 271);
    }

    /** "but 0 in the last line of the paragraph", of each. */
    private static void lastLinesAreNotWider() {
        DUE.is("16: last lines", Desks.positions(Desks.with("0 0/0 0")), "0 -1 16 -1 0 -1 16");
        GalleyDesk nearly = Desks.with("00 00");
        nearly.measure(47, 47, 0);
        DUE.is("16: d is 1", Desks.positions(nearly), "0 10 -1 26 36");
        DUE.is("16: the last of two", Desks.positions(Desks.with("00 00 00 00 00 0")),
            "0 10 -1 26 36 -1 53 63 -1 80 90 -1 0 10 -1 26");
    }

    /** "if d is below 0, d": in the last line, too. */
    private static void lastLinesAreNarrower() {
        DUE.is("16: the last line", Desks.positions(Desks.with("000 000 000")), "0 10 20 -1 35 45 55 -1 70 80 90");
        GalleyDesk full = Desks.with("00 00");
        full.measure(44, 44, 0);
        DUE.is("16: all that can be", Desks.positions(full), "0 10 -1 24 34");
    }

    /**
     * "d or -(G * shrink), whichever is greater": a line with a space that is overfull could end at an earlier break,
     * so that only lines without one are overfull, and nothing on them is wider or narrower.
     */
    private static void linesWithoutSpaces() {
        GalleyDesk loose = Desks.with("00 000");
        loose.measure(35, 35, 0);
        DUE.is("16: loose", Desks.positions(loose), "0 10 -1 0 10 20");
        GalleyDesk over = Desks.with("000 000");
        over.measure(20, 20, 0);
        DUE.is("14: overfull", Desks.shown(over), "0-3:30:-1 4-7:30:-1");
        DUE.is("16: overfull", Desks.positions(over), "0 10 20 -1 0 10 20");
    }

    /** Several codes 10 in a row are one space, also where spaces are counted. */
    private static void manySpacesAreOne() {
        GalleyDesk desk = Desks.with("0  0    0 00000000");
        desk.measure(45, 300, 1);
        desk.rules(10000, 0, 6);
        DUE.is("16: two spaces", Desks.positions(desk).replaceAll(" -1", ""), "0 17 35 0 10 20 30 40 50 60 70");
    }

    /** Every letter is one, the first and the last: spaces stand beside it, but not behind it in its word. */
    private static void spacesBesideEveryLetter() {
        for (int letter = 0; letter <= 9; letter++) {
            GalleyDesk desk = Desks.with("LL L LL 5555".replace("L", "" + letter));
            desk.measure(65, 300, 1);
            desk.rules(10000, 0, 6);
            DUE.is("16: beside " + letter, Desks.positions(desk), "0 10 -1 27 -1 45 55 -1 0 10 20 30");
            // 62 in 65: 100 * 3^3 / (2 * 3)^3 = 12.
            DUE.is("14: beside " + letter, desk.line(0, 3), 12);
        }
    }

    /** "-1 if there is no letter at that place": 10, 11, and all outside the text. */
    private static void positionNeedsALetter() {
        GalleyDesk desk = Desks.with(" 7/8");
        DUE.is("16: a letter", desk.position(1), 0);
        DUE.is("16: the last letter", desk.position(3), 0);
        int[] wrong = {-1, 0, 2, 4, 47, 48, LEAST, MOST};
        for (int i : wrong) {
            DUE.is("16: position " + i, desk.position(i), -1);
        }
        GalleyDesk full = Desks.with("9".repeat(48));
        DUE.is("16: the first of the full text", full.position(0), 0);
        DUE.is("16: the last of the full text", full.position(47), 470);
        DUE.is("16: behind the full text", full.position(48), -1);
        DUE.is("16: before the full text", full.position(-1), -1);
        DUE.is("16: the empty text", new GalleyDesk().position(0), -1);
    }

    public static void main(String[] args) {
        firstGlyphsBeginAtZero();
        glyphsFollowEachOther();
        lettersOfALigatureStandTogether();
        spacesAreWider();
        spacesAreNarrower();
        spacesAreMuchWider();
        lastLinesAreNotWider();
        lastLinesAreNarrower();
        linesWithoutSpaces();
        manySpacesAreOne();
        spacesBesideEveryLetter();
        positionNeedsALetter();
        DUE.end();
    }
}
