/** Promise 14, what 6: how lines fill pages. */
public final class PagesTest {
    private static final Due DUE = new Due("PagesTest");

    /** Pages of paragraphs with so many lines each: every word, of one letter 20 wide, is a line. */
    private static String pages(int height, int... lines) {
        StringBuilder text = new StringBuilder();
        for (int count : lines) {
            text.append(text.length() == 0 ? "" : "/").append("0 ".repeat(count).trim());
        }
        GalleyDesk desk = Desks.with(text.toString());
        desk.width(0, 20);
        desk.measure(20, 20, 0);
        desk.rules(200, 50, height);
        return Desks.pages(desk);
    }

    /** "The lines of all paragraphs in their order fill pages": none without lines, and up to as many as lines. */
    private static void linesFillPages() {
        DUE.is("no page", pages(6), "");
        DUE.is("no page", new GalleyDesk().line(0, 6), -1);
        DUE.is("one line", pages(6, 1), "0");
        DUE.is("one line a page", pages(1, 1, 1, 1, 1, 1, 1, 1, 1, 1, 1, 1, 1, 1), "0 1 2 3 4 5 6 7 8 9 10 11 12");
        DUE.is("24 lines", pages(1, 24), "0 1 2 3 4 5 6 7 8 9 10 11 12 13 14 15 16 17 18 19 20 21 22 23");
    }

    /** "A page takes as many lines as possible, at most HEIGHT" */
    private static void pagesTakeAtMostHeight() {
        DUE.is("just as many", pages(3, 1, 1, 1), "0 0 0");
        DUE.is("one more", pages(3, 1, 1, 1, 1), "0 0 0 1");
        DUE.is("two pages", pages(2, 1, 1, 1, 1), "0 0 1 1");
        DUE.is("the greatest height", pages(12, 12, 1), "0 0 0 0 0 0 0 0 0 0 0 0 1");
        DUE.is("as many as possible", pages(6, 3, 6), "0 0 0 0 0 0 1 1 1");
        DUE.is("a long paragraph", pages(6, 14), "0 0 0 0 0 0 1 1 1 1 1 1 2 2");
    }

    /** "but ends at the end of all": with fewer lines, or just as many. */
    private static void pagesEndAtTheEndOfAll() {
        DUE.is("fewer lines", pages(12, 3), "0 0 0");
        DUE.is("just as many lines", pages(3, 3), "0 0 0");
        DUE.is("the last page", pages(3, 2, 2), "0 0 1 1");
        DUE.is("the last page, full", pages(4, 4, 4), "0 0 0 0 1 1 1 1");
    }

    /** "so that the line behind it is not the last ... of a paragraph of two or more lines" */
    private static void lastLinesDoNotStandAlone() {
        DUE.is("four lines", pages(3, 4), "0 0 1 1");
        DUE.is("five lines", pages(4, 5), "0 0 0 1 1");
        DUE.is("further on", pages(2, 5), "0 0 1 2 2");
        DUE.is("behind a paragraph", pages(4, 1, 4), "0 0 0 1 1");
    }

    /** "and the last line on it not the first, of a paragraph of two or more lines" */
    private static void firstLinesDoNotStandAlone() {
        DUE.is("two lines left", pages(3, 2, 4), "0 0 1 1 2 2");
        DUE.is("one line left", pages(2, 1, 4), "0 1 1 2 2");
        DUE.is("none left", pages(2, 2, 4), "0 0 1 1 2 2");
        DUE.is("two of them fit", pages(3, 1, 4), "0 0 0 1 1");
    }

    /** "of a paragraph of two or more lines": one line may be first, last and alone. */
    private static void paragraphsOfOneLine() {
        DUE.is("the line behind", pages(2, 2, 1), "0 0 1");
        DUE.is("the last on it", pages(2, 1, 1, 2), "0 0 1 1");
        DUE.is("both", pages(2, 1, 1, 1), "0 0 1");
    }

    /** Two lines and three can't be parted, four only in the middle. */
    private static void paragraphsOfFewLines() {
        DUE.is("two lines", pages(2, 1, 2), "0 1 1");
        DUE.is("two lines and two", pages(3, 2, 2), "0 0 1 1");
        DUE.is("three lines", pages(3, 1, 3), "0 1 1 1");
        DUE.is("three lines behind two", pages(4, 2, 3), "0 0 1 1 1");
        DUE.is("three times three", pages(5, 3, 3, 3), "0 0 0 1 1 1 2 2 2");
        DUE.is("four lines", pages(4, 2, 4), "0 0 0 0 1 1");
        DUE.is("four lines behind three", pages(6, 3, 4), "0 0 0 0 0 1 1");
    }

    /** "if that leaves it no line, it takes HEIGHT" */
    private static void pagesThatNoRuleLeavesALine() {
        DUE.is("one of two", pages(1, 2), "0 1");
        DUE.is("one of three", pages(1, 3), "0 1 2");
        DUE.is("two of three", pages(2, 3), "0 0 1");
        DUE.is("and then goes on", pages(2, 3, 3), "0 0 1 2 2 3");
        DUE.is("the last line, then a paragraph", pages(2, 3, 1, 1), "0 0 1 1 2");
        DUE.is("behind a page", pages(2, 1, 3), "0 1 1 2");
    }

    public static void main(String[] args) {
        linesFillPages();
        pagesTakeAtMostHeight();
        pagesEndAtTheEndOfAll();
        lastLinesDoNotStandAlone();
        firstLinesDoNotStandAlone();
        paragraphsOfOneLine();
        paragraphsOfFewLines();
        pagesThatNoRuleLeavesALine();
        DUE.end();
    }
}
