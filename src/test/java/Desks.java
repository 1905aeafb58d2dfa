/** Makes desks with a text that can be read: digits are letters, a blank is code 10, a slash code 11. */
final class Desks {
    private Desks() {
    }

    static GalleyDesk with(String text) {
        GalleyDesk desk = new GalleyDesk();
        put(desk, text);
        return desk;
    }

    static int put(GalleyDesk desk, String text) {
        int length = desk.put(-1, -1, -1, -1);
        for (int i = 0; i < text.length(); i++) {
            char c = text.charAt(i);
            int code = c == ' ' ? 10 : c == '/' ? 11 : c - '0';
            length = desk.put(code, -1, -1, -1);
        }
        return length;
    }

    /** All lines as from-to:width:badness, with a hyphen sign where the line ends with one. */
    static String shown(GalleyDesk desk) {
        StringBuilder all = new StringBuilder();
        for (int k = 0; k < desk.lines(); k++) {
            all.append(k == 0 ? "" : " ").append(desk.line(k, 0)).append('-').append(desk.line(k, 1));
            all.append(':').append(desk.line(k, 2)).append(':').append(desk.line(k, 3));
            all.append(desk.line(k, 4) == 1 ? "-" : "");
        }
        return all.toString();
    }

    /** The page of each line, one behind the other. */
    static String pages(GalleyDesk desk) {
        StringBuilder all = new StringBuilder();
        for (int k = 0; k < desk.lines(); k++) {
            all.append(k == 0 ? "" : " ").append(desk.line(k, 6));
        }
        return all.toString();
    }
}
