/** Makes desks with a text that can be read: digits are letters, a blank is code 10, a slash code 11. */
final class Desks {
    private static final int NO_CODE = -1;

    private Desks() {
    }

    static GalleyDesk with(String text) {
        GalleyDesk desk = new GalleyDesk();
        put(desk, text);
        return desk;
    }

    /** Four codes a call, since an object is used for at most 512 calls. */
    static int put(GalleyDesk desk, String text) {
        int length = length(desk);
        for (int i = 0; i < text.length(); i += 4) {
            length = desk.put(code(text, i), code(text, i + 1), code(text, i + 2), code(text, i + 3));
        }
        return length;
    }

    private static int code(String text, int i) {
        if (i >= text.length()) {
            return NO_CODE;
        }
        char c = text.charAt(i);
        return c == ' ' ? 10 : c == '/' ? 11 : c - '0';
    }

    static int length(GalleyDesk desk) {
        return desk.put(NO_CODE, NO_CODE, NO_CODE, NO_CODE);
    }

    /** All lines as from-to:width:badness, with a hyphen sign where the line ends with one. */
    static String shown(GalleyDesk desk) {
        StringBuilder all = new StringBuilder();
        int lines = desk.lines();
        for (int k = 0; k < lines; k++) {
            all.append(k == 0 ? "" : " ").append(desk.line(k, 0)).append('-').append(desk.line(k, 1));
            all.append(':').append(desk.line(k, 2)).append(':').append(desk.line(k, 3));
            all.append(desk.line(k, 4) == 1 ? "-" : "");
        }
        return all.toString();
    }

    /** One fact of each line, one behind the other. */
    static String facts(GalleyDesk desk, int what) {
        StringBuilder all = new StringBuilder();
        int lines = desk.lines();
        for (int k = 0; k < lines; k++) {
            all.append(k == 0 ? "" : " ").append(desk.line(k, what));
        }
        return all.toString();
    }

    static String paragraphs(GalleyDesk desk) {
        return facts(desk, 5);
    }

    static String pages(GalleyDesk desk) {
        return facts(desk, 6);
    }

    /** The places before which a hyphen may stand. */
    static String hyphens(GalleyDesk desk) {
        StringBuilder all = new StringBuilder();
        for (int i = 0; i < 48; i++) {
            all.append(desk.hyphen(i) ? (all.length() == 0 ? "" : " ") + i : "");
        }
        return all.toString();
    }

    static String glyphs(GalleyDesk desk) {
        StringBuilder all = new StringBuilder();
        int length = length(desk);
        for (int i = 0; i < length; i++) {
            all.append(i == 0 ? "" : " ").append(desk.glyph(i));
        }
        return all.toString();
    }

    static String positions(GalleyDesk desk) {
        StringBuilder all = new StringBuilder();
        int length = length(desk);
        for (int i = 0; i < length; i++) {
            all.append(i == 0 ? "" : " ").append(desk.position(i));
        }
        return all.toString();
    }

    static String demerits(GalleyDesk desk) {
        StringBuilder all = new StringBuilder();
        for (int p = 0; desk.demerits(p) != -2; p++) {
            all.append(p == 0 ? "" : " ").append(desk.demerits(p));
        }
        return all.toString();
    }

    /** What a desk answers to questions of every kind, so that a change shows wherever it is. */
    static String everything(GalleyDesk desk) {
        int length = length(desk);
        StringBuilder all = new StringBuilder(length + " codes, spans");
        for (int i = 0; i < length; i++) {
            all.append(' ').append(desk.span(i, i + 1)).append(' ').append(desk.span(i, i + 2));
        }
        all.append(", hyphens ").append(hyphens(desk));
        all.append(", lines ").append(shown(desk)).append(", pages ").append(pages(desk));
        all.append(", paragraphs ").append(paragraphs(desk)).append(", demerits ").append(demerits(desk));
        all.append(", glyphs ").append(glyphs(desk)).append(", positions ").append(positions(desk));
        return all.toString();
    }
}
