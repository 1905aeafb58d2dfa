/** Promise 1, and the calls for which an object is used. */
public final class NewObjectTest {
    private static final Due DUE = new Due("NewObjectTest");

    /** "No text": every question is asked of the empty text. */
    private static void thereIsNoText() {
        DUE.is("1: length", Desks.length(new GalleyDesk()), 0);
        DUE.is("1: wipe", new GalleyDesk().wipe(), 0);
        DUE.is("1: span", new GalleyDesk().span(0, 1), -1);
        DUE.no("1: hyphen", new GalleyDesk().hyphen(0));
        DUE.is("1: lines", new GalleyDesk().lines(), 0);
        for (int what = 0; what <= 6; what++) {
            DUE.is("1: line 0 " + what, new GalleyDesk().line(0, what), -1);
        }
        DUE.is("1: glyph", new GalleyDesk().glyph(0), -1);
        DUE.is("1: position", new GalleyDesk().position(0), -1);
        DUE.is("1: demerits", new GalleyDesk().demerits(0), -2);
    }

    /** "all letters 10 wide" */
    private static void lettersAreTenWide() {
        GalleyDesk desk = Desks.with("0123456789");
        for (int i = 0; i < 10; i++) {
            DUE.is("1: width of " + i, desk.span(i, i + 1), 10);
        }
    }

    /** "no ligatures, kerns" */
    private static void thereAreNoLigaturesAndKerns() {
        for (int x = 0; x < 10; x++) {
            for (int y = 0; y < 10; y++) {
                GalleyDesk desk = Desks.with("" + x + y);
                DUE.is("1: no kern " + x + y, desk.span(0, 2), 20);
                DUE.is("1: no ligature " + x + y, Desks.glyphs(desk), x + " " + y);
            }
        }
    }

    /** "no ... patterns" */
    private static void thereAreNoPatterns() {
        DUE.is("1: one word", Desks.hyphens(Desks.with("012345678900112233445566778899".repeat(2))), "");
        DUE.is("1: many words", Desks.hyphens(Desks.with("0000 1111 2222 3333 4444 5555/6666 7777 8888/9999")), "");
    }

    /** "REST 100, N 0"; with FIRST 100 neither that nor N shows in any answer. */
    private static void linesAreAHundredWide() {
        GalleyDesk full = Desks.with("0000000000 0000000000 0");
        DUE.is("1: 100", Desks.shown(full), "0-10:100:0 11-21:100:0 22-23:10:0");
        DUE.is("1: 100", full.demerits(0), 300);
        GalleyDesk under = new GalleyDesk();
        under.width(1, 9);
        Desks.put(under, "0000000001 0");
        DUE.is("1: 99", Desks.shown(under), "0-10:99:10000 11-12:10:0");
        GalleyDesk over = new GalleyDesk();
        over.width(1, 11);
        Desks.put(over, "0000000001 0");
        DUE.is("1: 101", Desks.shown(over), "0-10:101:-1 11-12:10:0");
    }

    /** "spaces 6 wide, stretch 3, shrink 2" */
    private static void spacesAreAsNamed() {
        DUE.is("1: wide", Desks.with("0 0").line(0, 2), 26);
        // Natural 98 with three spaces: 100 * 2^3 / (3 * 3)^3 = 1.
        DUE.is("1: stretch", Desks.shown(Desks.with("00 00 00 00 0000")), "0-11:98:1 12-16:40:0");
        // Natural 102 with two spaces: 100 * 2^3 / (2 * 2)^3 = 12.
        DUE.is("1: shrink", Desks.shown(Desks.with("000 000 000 0000")), "0-11:102:12 12-16:40:0");
    }

    /** "TOLERANCE 200" */
    private static void toleranceIs200() {
        GalleyDesk within = Desks.with("0 0 0 0 0 0 00000000");
        within.glue(6, 10, 2);
        within.measure(153, 153, 0);
        // 90 in 153: 100 * 63^3 / 50^3 = 200; the class jumps before either line.
        DUE.is("1: badness 200", within.line(0, 3), 200);
        DUE.is("1: badness 200 is tolerated", within.demerits(0), 210 * 210 + 2000 + 100 + 2000);
        GalleyDesk beyond = Desks.with("0 0 000");
        beyond.glue(6, 19, 2);
        beyond.measure(50, 50, 0);
        // 26 in 50: 100 * 24^3 / 19^3 = 201.
        DUE.is("1: badness 201", beyond.line(0, 3), 201);
        DUE.is("1: badness 201 is not tolerated", beyond.demerits(0), -1);
    }

    /** "COST 50, HEIGHT 6" */
    private static void costIs50AndHeight6() {
        GalleyDesk costly = Desks.with("000000000000");
        costly.pattern(0, -1, -1, 1);
        costly.measure(65, 65, 0);
        DUE.is("1: cost", costly.demerits(0), 100 + 2500 + 100);
        DUE.is("1: height", Desks.pages(Desks.with("0/0/0/0/0/0/0")), "0 0 0 0 0 0 1");
    }

    /** Objects do not share what was said to one of them. */
    private static void objectsAreApart() {
        String untouched = Desks.everything(Desks.with("0011 0011/0"));
        GalleyDesk other = Desks.with("99");
        other.width(0, 20);
        other.ligature(0, 0, 1);
        other.kern(0, 1, 5);
        other.pattern(0, 1, -1, 10);
        other.measure(20, 20, 1);
        other.glue(20, 20, 20);
        other.rules(0, 0, 1);
        DUE.is("1: a second object", Desks.everything(Desks.with("0011 0011/0")), untouched);
    }

    /** "An object is used for at most 512 calls after it has been made": the 512th is still answered as due. */
    private static void theLastOf512Calls() {
        GalleyDesk desk = new GalleyDesk();
        for (int call = 1; call <= 509; call++) {
            desk.kern(0, 0, call % 11 - 5);
        }
        desk.kern(0, 0, 1);
        DUE.is("the 511th call", desk.put(0, 0, 10, 0), 4);
        DUE.is("the 512th call", desk.position(3), 27);
    }

    public static void main(String[] args) {
        thereIsNoText();
        lettersAreTenWide();
        thereAreNoLigaturesAndKerns();
        thereAreNoPatterns();
        linesAreAHundredWide();
        spacesAreAsNamed();
        toleranceIs200();
        costIs50AndHeight6();
        objectsAreApart();
        theLastOf512Calls();
        DUE.end();
    }
}
