/** Promises 13 and 14: how many lines there are, what is told of them, and the breaks at which they end. */
public final class LinesTest {
    private static final Due DUE = new Due("LinesTest");
    private static final int LEAST = Integer.MIN_VALUE;
    private static final int MOST = Integer.MAX_VALUE;

    /** "The number of lines of all paragraphs": from none to the most that a text can have. */
    private static void linesAreCounted() {
        DUE.is("13: the empty text", new GalleyDesk().lines(), 0);
        DUE.is("13: one letter", Desks.with("0").lines(), 1);
        DUE.is("13: as many as paragraphs", Desks.with("0/".repeat(24)).lines(), 24);
        GalleyDesk words = Desks.with("0 ".repeat(24));
        words.width(0, 20);
        words.measure(20, 20, 0);
        DUE.is("13: as many as words", words.lines(), 24);
        GalleyDesk letters = Desks.with("0".repeat(48));
        letters.pattern(0, -1, -1, 11);
        letters.measure(20, 20, 0);
        // Two letters stay before the first hyphen and two behind the last one.
        DUE.is("13: as many as letters but two", letters.lines(), 46);
        DUE.is("14: the first", letters.line(0, 1), 2);
        DUE.is("14: the second", letters.line(1, 1), 3);
        DUE.is("14: the last", letters.line(45, 0), 46);
        DUE.is("14: the last", letters.line(45, 1), 48);
        DUE.is("14: none behind", letters.line(46, 0), -1);
    }

    /** "-1 if there is no such line" */
    private static void thereIsNoSuchLine() {
        GalleyDesk desk = Desks.with("0/0");
        // 2^29 lines further on, a row of eight facts would wrap around to the first one.
        int[] none = {-1, 2, 3, 47, 48, LEAST, MOST, 1 << 29, 1 << 30, 1 << 28, -(1 << 29)};
        for (int what = 0; what <= 6; what++) {
            DUE.no("14: line 0 " + what + " is there", desk.line(0, what) == -1);
            DUE.no("14: line 1 " + what + " is there", desk.line(1, what) == -1);
            for (int k : none) {
                DUE.is("14: line " + k + " " + what, desk.line(k, what), -1);
            }
        }
    }

    /** "or what is none of these": 0 to 6 are. */
    private static void thereIsNoSuchFact() {
        GalleyDesk desk = Desks.with("0/0");
        int[] none = {-1, 7, 8, 9, LEAST, MOST};
        for (int what : none) {
            DUE.is("14: line 0 " + what, desk.line(0, what), -1);
            DUE.is("14: line 1 " + what, desk.line(1, what), -1);
            DUE.is("14: no line " + what, desk.line(2, what), -1);
        }
    }

    /** "what 0: the place of its first letter; 1: the place behind its last letter": spaces are neither. */
    private static void linesGoFromLetterToLetter() {
        DUE.is("14: spaces around", Desks.shown(Desks.with("  00  ")), "2-4:20:0");
        DUE.is("14: spaces around two", Desks.shown(Desks.with(" 0/  0 0  / 0")), "1-2:10:0 5-8:26:0 12-13:10:0");
        GalleyDesk desk = Desks.with("00   00");
        desk.measure(20, 20, 0);
        DUE.is("14: spaces between two lines", Desks.shown(desk), "0-2:20:0 5-7:20:0");
    }

    /** "3: its badness (-1 if it is overfull)" */
    private static void overfullLinesAreTold() {
        GalleyDesk desk = Desks.with("000");
        desk.measure(30, 30, 0);
        DUE.is("14: just as wide", desk.line(0, 3), 0);
        desk.measure(29, 29, 0);
        DUE.is("14: overfull", desk.line(0, 3), -1);
        DUE.is("14: overfull, from", desk.line(0, 0), 0);
        DUE.is("14: overfull, to", desk.line(0, 1), 3);
        DUE.is("14: overfull, width", desk.line(0, 2), 30);
    }

    /** "4: 1 if it ends with a hyphen, else 0" */
    private static void hyphensAreTold() {
        GalleyDesk desk = Desks.with("0000 00");
        desk.pattern(0, -1, -1, 1);
        desk.measure(25, 25, 0);
        DUE.is("14: a hyphen, a word's end, the paragraph's end", Desks.facts(desk, 4), "1 0 0");
    }

    /** "5: the number of its paragraph": of those that are counted. */
    private static void paragraphsAreNumbered() {
        GalleyDesk desk = Desks.with("/00 00/ //00/00 00");
        desk.measure(20, 20, 0);
        DUE.is("14: paragraphs", Desks.paragraphs(desk), "0 0 1 2 2");
    }

    /** With every part overfull each line ends at the next break, so that the lines show all breaks. */
    private static GalleyDesk showingBreaks(String text) {
        GalleyDesk desk = new GalleyDesk();
        desk.width(0, 30);
        desk.pattern(0, -1, -1, 1);
        desk.measure(20, 20, 0);
        Desks.put(desk, text);
        return desk;
    }

    private static String breaks(String text) {
        return Desks.shown(showingBreaks(text)).replaceAll(":[0-9]+:-1", "");
    }

    /** "BREAKS of a paragraph, in their order: before every letter where a hyphen may stand (with a hyphen)" */
    private static void breaksStandWhereHyphensMay() {
        DUE.is("breaks: none in three letters", breaks("000"), "0-3");
        DUE.is("breaks: one in four", breaks("0000"), "0-2- 2-4");
        DUE.is("breaks: two in five", breaks("00000"), "0-2- 2-3- 3-5");
    }

    /** "behind every word but the last (behind its last letter), and at the paragraph's end" */
    private static void breaksStandBehindWords() {
        DUE.is("breaks: one word", breaks("0"), "0-1");
        DUE.is("breaks: two words", breaks("0 0"), "0-1 2-3");
        DUE.is("breaks: spaces at the end", breaks("0 0   "), "0-1 2-3");
        DUE.is("breaks: of each kind", breaks("  00000 0000  000/0 "), "2-4- 4-5- 5-7 8-10- 10-12 14-17 18-19");
    }

    /** "between each two neighbouring words a SPACE": one, however many codes 10 stand there. */
    private static void spacesStandBetweenWords() {
        DUE.is("lines: one word", Desks.with("0").line(0, 2), 10);
        DUE.is("lines: two words", Desks.with("0 0").line(0, 2), 26);
        DUE.is("lines: many spaces", Desks.with("   0     0   ").line(0, 2), 26);
        DUE.is("lines: three words", Desks.with("0  0 0").line(0, 2), 42);
        GalleyDesk desk = Desks.with("00  00 0000");
        desk.measure(48, 48, 0);
        // Two spaces would be natural 52 and give 100 * 4^3 / 4^3; one gives 100 * 2^3 / 3^3.
        DUE.is("lines: many spaces give as one", Desks.shown(desk), "0-6:46:29 7-11:40:0");
    }

    /** "and at its end a hyphen (5 wide) if its end is a break with one" */
    private static void hyphensAreFiveWide() {
        GalleyDesk desk = Desks.with("0000");
        desk.pattern(0, -1, -1, 1);
        desk.measure(25, 25, 0);
        DUE.is("lines: with a hyphen", Desks.shown(desk), "0-2:25:0- 2-4:20:0");
        desk.measure(24, 24, 0);
        DUE.is("lines: too wide with one", Desks.shown(desk), "0-2:25:-1- 2-4:20:0");
        desk.measure(40, 40, 0);
        DUE.is("lines: none inside", Desks.shown(desk), "0-4:40:0");
    }

    /** "Line number j of a paragraph (from 0 on) should be FIRST wide if j is less than N, else REST." */
    private static void lineNumbersBeginAnew() {
        GalleyDesk desk = Desks.with("00 00 00/00 00 00/00");
        desk.measure(46, 20, 1);
        DUE.is("lines: first lines", Desks.shown(desk), "0-5:46:0 6-8:20:0 9-14:46:0 15-17:20:0 18-20:20:0");
        DUE.is("lines: first lines", Desks.demerits(desk), "200 200 100");
    }

    public static void main(String[] args) {
        linesAreCounted();
        thereIsNoSuchLine();
        thereIsNoSuchFact();
        linesGoFromLetterToLetter();
        overfullLinesAreTold();
        hyphensAreTold();
        paragraphsAreNumbered();
        breaksStandWhereHyphensMay();
        breaksStandBehindWords();
        spacesStandBetweenWords();
        hyphensAreFiveWide();
        lineNumbersBeginAnew();
        DUE.end();
    }
}
