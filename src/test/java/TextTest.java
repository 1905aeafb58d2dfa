/** Promises 2 and 3, and the text, its paragraphs and words. */
public final class TextTest {
    private static final Due DUE = new Due("TextTest");
    private static final int[] NO_CODES = {-1, 12, Integer.MIN_VALUE, Integer.MAX_VALUE};

    private static int putAt(GalleyDesk desk, int slot, int code) {
        int[] codes = {-1, -1, -1, -1};
        codes[slot] = code;
        return desk.put(codes[0], codes[1], codes[2], codes[3]);
    }

    /** "Adds up to four codes to the text": every code from 0 to 11, as each of the four. */
    private static void everyCodeIsTaken() {
        for (int slot = 0; slot < 4; slot++) {
            for (int code = 0; code <= 11; code++) {
                GalleyDesk desk = Desks.with("0");
                DUE.is("2: code " + code + " as number " + slot, putAt(desk, slot, code), 2);
                Desks.put(desk, "0");
                // A letter stays in the word, 10 makes two words of it and 11 two paragraphs.
                DUE.is("2: glyph of " + code, desk.glyph(1), code <= 9 ? code : -1);
                DUE.is("2: width with " + code, desk.line(0, 2), code <= 9 ? 30 : code == 10 ? 26 : 10);
                DUE.is("2: lines with " + code, desk.lines(), code == 11 ? 2 : 1);
            }
        }
    }

    /** "in this order" */
    private static void codesKeepTheirOrder() {
        GalleyDesk desk = new GalleyDesk();
        DUE.is("2: four", desk.put(1, 2, 3, 4), 4);
        DUE.is("2: four more", desk.put(9, 8, 0, 1), 8);
        DUE.is("2: in their order", Desks.glyphs(desk), "1 2 3 4 9 8 0 1");
    }

    /** "those that are not 0..11 are left out": the others close up. */
    private static void wrongCodesAreLeftOut() {
        for (int wrong : NO_CODES) {
            for (int slot = 0; slot < 4; slot++) {
                GalleyDesk desk = Desks.with("5");
                DUE.is("2: " + wrong + " alone", putAt(desk, slot, wrong), 1);
                int[] codes = {1, 2, 3, 4};
                codes[slot] = wrong;
                DUE.is("2: " + wrong + " among others", desk.put(codes[0], codes[1], codes[2], codes[3]), 4);
                String due = "5 1 2 3 4".replace(" " + (slot + 1), "");
                DUE.is("2: " + wrong + " left out as number " + slot, Desks.glyphs(desk), due);
            }
        }
    }

    /** "and all behind the 48th": from each length near the end on. */
    private static void codesBehindThe48thAreLeftOut() {
        for (int before = 43; before <= 48; before++) {
            GalleyDesk desk = Desks.with("0".repeat(before));
            int after = before + 4 < 48 ? before + 4 : 48;
            DUE.is("2: four behind " + before, desk.put(1, 2, 3, 4), after);
            for (int i = 40; i < 49; i++) {
                int due = i < before ? 0 : i < after ? i - before + 1 : -1;
                DUE.is("2: place " + i + " behind " + before, desk.glyph(i), due);
            }
            DUE.is("2: length behind " + before, Desks.length(desk), after);
        }
    }

    /** A code that is left out takes no room from those behind it. */
    private static void leftOutCodesTakeNoRoom() {
        GalleyDesk desk = Desks.with("0".repeat(46));
        DUE.is("2: two of four", desk.put(-1, 1, 12, 2), 48);
        DUE.is("2: the 47th", desk.glyph(46), 1);
        DUE.is("2: the 48th", desk.glyph(47), 2);
    }

    /** "THE TEXT is a row of at most 48 codes": the full one is set to its last place. */
    private static void theFullTextIsSet() {
        GalleyDesk letters = Desks.with("0".repeat(47) + "9");
        DUE.is("text: a word of 48", letters.span(0, 48), 480);
        DUE.is("text: no 49th place", letters.span(0, 49), -1);
        DUE.is("text: its line", Desks.shown(letters), "0-48:480:-1");
        DUE.is("text: its last letter", letters.position(47), 470);
        GalleyDesk words = Desks.with("0 ".repeat(23) + "00");
        DUE.is("text: the last line", words.line(words.lines() - 1, 1), 48);
        GalleyDesk ends = Desks.with("/".repeat(47) + "7");
        DUE.is("text: a word behind 47 ends", Desks.shown(ends), "47-48:10:0");
        DUE.is("text: its paragraph", ends.line(0, 5), 0);
        GalleyDesk spaces = Desks.with(" ".repeat(47) + "7");
        DUE.is("text: a word behind 47 spaces", Desks.shown(spaces), "47-48:10:0");
        DUE.is("text: its place", spaces.position(47), 0);
    }

    /** "Empties the text; answers how long it was": of the empty text, of the full one, and twice. */
    private static void wipeAnswersTheLength() {
        GalleyDesk desk = new GalleyDesk();
        DUE.is("3: empty", desk.wipe(), 0);
        Desks.put(desk, "7");
        DUE.is("3: one code", desk.wipe(), 1);
        DUE.is("3: again", desk.wipe(), 0);
        Desks.put(desk, "0".repeat(48));
        desk.put(0, 0, 0, 0);
        DUE.is("3: full", desk.wipe(), 48);
        DUE.is("3: the length is 0", Desks.length(desk), 0);
        Desks.put(desk, "0".repeat(47) + "1");
        DUE.is("3: full again", desk.glyph(47), 1);
        DUE.is("3: full again", desk.wipe(), 48);
    }

    /** Nothing of the old text is left, neither its lines nor the codes behind the new one. */
    private static void wipeLeavesNothing() {
        GalleyDesk desk = Desks.with("000000/0000");
        desk.pattern(0, -1, -1, 1);
        DUE.is("3: lines before", desk.lines(), 2);
        desk.wipe();
        DUE.is("3: no lines", desk.lines(), 0);
        DUE.is("3: no line", desk.line(0, 0), -1);
        DUE.is("3: no demerits", desk.demerits(0), -2);
        DUE.is("3: no glyph", desk.glyph(0), -1);
        DUE.is("3: no position", desk.position(0), -1);
        DUE.is("3: no span", desk.span(0, 1), -1);
        DUE.is("3: no hyphens", Desks.hyphens(desk), "");
        Desks.put(desk, "000");
        DUE.is("3: three letters", desk.span(0, 3), 30);
        DUE.is("3: not four", desk.span(0, 4), -1);
        DUE.is("3: the old letters are not behind", Desks.hyphens(desk), "");
        DUE.is("3: one line", Desks.shown(desk), "0-3:30:0");
        DUE.is("3: one paragraph", desk.demerits(1), -2);
    }

    private static GalleyDesk withSettings() {
        GalleyDesk desk = new GalleyDesk();
        desk.width(2, 13);
        desk.ligature(3, 4, 5);
        desk.kern(0, 1, -2);
        desk.pattern(0, -1, -1, 1);
        desk.measure(47, 65, 1);
        desk.glue(7, 4, 3);
        desk.rules(300, 20, 2);
        return desk;
    }

    /** Wipe "Empties the text", and changes no setting. */
    private static void wipeKeepsTheSettings() {
        String text = "01 2/34 000000000000 11 22 11";
        GalleyDesk plain = withSettings();
        Desks.put(plain, text);
        GalleyDesk wiped = withSettings();
        Desks.put(wiped, "9999 9999/9");
        wiped.lines();
        wiped.wipe();
        Desks.put(wiped, text);
        DUE.is("3: the settings stay", Desks.everything(wiped), Desks.everything(plain));
    }

    /** "A PARAGRAPH is what stands between two codes 11 or before the first or behind the last one" */
    private static void paragraphsStandBetweenEnds() {
        String[] texts = {"0", "0/", "/0", "/0/", "0/0", "/0/0/", "0//0", "0/0/0"};
        String[] due = {"0", "0", "0", "0", "0 1", "0 1", "0 1", "0 1 2"};
        for (int i = 0; i < texts.length; i++) {
            DUE.is("text: paragraphs of " + texts[i], Desks.paragraphs(Desks.with(texts[i])), due[i]);
        }
    }

    /** "A paragraph without words has no lines and is not counted." */
    private static void paragraphsWithoutWordsAreNotCounted() {
        String[] texts = {"", " ", "/", "//", " / ", "/ //  /", "/".repeat(48), " ".repeat(48), " /".repeat(24)};
        for (String text : texts) {
            GalleyDesk desk = Desks.with(text);
            DUE.is("13: no words in '" + text + "'", desk.lines(), 0);
            DUE.is("14: no words in '" + text + "'", desk.line(0, 0), -1);
            DUE.is("17: no words in '" + text + "'", desk.demerits(0), -2);
        }
        GalleyDesk desk = Desks.with("/ 0//  /1 1/ /");
        DUE.is("13: two paragraphs", Desks.shown(desk), "2-3:10:0 8-11:26:0");
        DUE.is("14: two paragraphs", Desks.paragraphs(desk), "0 1");
        DUE.is("17: two paragraphs", Desks.demerits(desk), "100 100");
    }

    /** "a WORD a row of letters, as long as possible": both 10 and 11 end it, as do the text's ends. */
    private static void wordsAreAsLongAsPossible() {
        GalleyDesk desk = Desks.with("0099 9009/9900");
        desk.pattern(0, -1, -1, 11);
        // Odd digits stand on both sides of every 0, and each word has one place with two letters on either side.
        DUE.is("text: words", Desks.hyphens(desk), "2 7 12");
        DUE.is("text: to the space", desk.span(0, 4), 40);
        DUE.is("text: over the space", desk.span(0, 5), -1);
        DUE.is("text: over the end", desk.span(8, 10), -1);
    }

    /** A text that has been set is set anew when codes come behind it. */
    private static void putBehindLines() {
        GalleyDesk desk = Desks.with("00");
        DUE.is("2: before", Desks.shown(desk), "0-2:20:0");
        Desks.put(desk, "0");
        DUE.is("2: a longer word", Desks.shown(desk), "0-3:30:0");
        Desks.put(desk, " ");
        DUE.is("2: only a space", Desks.shown(desk), "0-3:30:0");
        Desks.put(desk, "0/0");
        DUE.is("2: another paragraph", Desks.shown(desk), "0-5:46:0 6-7:10:0");
    }

    public static void main(String[] args) {
        everyCodeIsTaken();
        codesKeepTheirOrder();
        wrongCodesAreLeftOut();
        codesBehindThe48thAreLeftOut();
        leftOutCodesTakeNoRoom();
        theFullTextIsSet();
        wipeAnswersTheLength();
        wipeLeavesNothing();
        wipeKeepsTheSettings();
        paragraphsStandBetweenEnds();
        paragraphsWithoutWordsAreNotCounted();
        wordsAreAsLongAsPossible();
        putBehindLines();
        DUE.end();
    }
}
