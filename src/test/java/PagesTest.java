/** Promise 14, what 6: how lines fill pages. */
public final class PagesTest {
    private static final Due DUE = new Due("PagesTest");

    /** Pages of paragraphs with so many lines each: at 20 wide, every word of two letters is a line. */
    private static String pages(int height, int... lines) {
        StringBuilder text = new StringBuilder();
        for (int count : lines) {
            text.append(text.length() == 0 ? "" : "/").append("00 ".repeat(count).trim());
        }
        GalleyDesk desk = Desks.with(text.toString());
        desk.measure(20, 20, 0);
        desk.rules(200, 50, height);
        return Desks.pages(desk);
    }

    public static void main(String[] args) {
        DUE.is("one page", pages(12, 3), "0 0 0");
        DUE.is("exactly one page", pages(3, 3), "0 0 0");
        DUE.is("the last line is not left alone", pages(3, 4), "0 0 1 1");
        DUE.is("a page that no rule leaves a line", pages(2, 3), "0 0 1");
        DUE.is("one line a page", pages(1, 3), "0 1 2");
        DUE.is("paragraphs of one line", pages(2, 1, 1, 1), "0 0 1");
        DUE.is("paragraphs of two lines", pages(3, 2, 2), "0 0 1 1");
        DUE.is("the first line does not stand alone", pages(2, 1, 4), "0 1 1 2 2");
        DUE.is("two lines on either side", pages(3, 1, 4), "0 0 0 1 1");
        DUE.is("between paragraphs", pages(4, 4, 4), "0 0 0 0 1 1 1 1");
        DUE.is("neither first nor last", pages(5, 3, 3, 3), "0 0 0 1 1 1 2 2 2");
        DUE.is("as many as possible", pages(6, 3, 6), "0 0 0 0 0 0 1 1 1");
        DUE.is("the greatest height", pages(12, 12, 1), "0 0 0 0 0 0 0 0 0 0 0 0 1");
        DUE.end();
    }
}
