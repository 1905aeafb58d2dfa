/** Promises 1 to 10: what a new object holds, and what each change takes and refuses. */
public final class SettingsTest {
    private static final Due DUE = new Due("SettingsTest");
    private static final int LEAST = Integer.MIN_VALUE;
    private static final int MOST = Integer.MAX_VALUE;

    private static void newObjectIsEmpty() {
        GalleyDesk desk = new GalleyDesk();
        DUE.is("1: lines", desk.lines(), 0);
        DUE.is("1: line", desk.line(0, 0), -1);
        DUE.is("1: demerits", desk.demerits(0), -2);
        DUE.is("1: length", desk.put(-1, -1, -1, -1), 0);
        DUE.is("1: wipe", desk.wipe(), 0);
    }

    private static void newObjectHasPlainLetters() {
        GalleyDesk desk = Desks.with("0123456789");
        for (int i = 0; i < 10; i++) {
            DUE.is("1: width of " + i, desk.span(i, i + 1), 10);
            DUE.no("1: hyphen before " + i, desk.hyphen(i));
        }
        for (int x = 0; x < 10; x++) {
            for (int y = 0; y < 10; y++) {
                DUE.is("1: no kern or ligature " + x + y, Desks.with("" + x + y).span(0, 2), 20);
            }
        }
    }

    private static void newObjectHasTheNamedRules() {
        // Natural 102 with two spaces: 100 * 2^3 / (2 * 2)^3 = 12.
        DUE.is("1: shrink", Desks.shown(Desks.with("000 000 000 0000")), "0-11:102:12 12-16:40:0");
        // Natural 98 with three spaces: 100 * 2^3 / (3 * 3)^3 = 1.
        DUE.is("1: stretch", Desks.shown(Desks.with("00 00 00 00 0000")), "0-11:98:1 12-16:40:0");
        GalleyDesk within = Desks.with("0 0 0 0 0 0 00000000");
        within.glue(6, 10, 2);
        within.measure(153, 153, 0);
        // 90 in 153: 100 * 63^3 / 50^3 = 200; the class jumps before either line.
        DUE.is("1: badness 200 is tolerated", within.demerits(0), 210 * 210 + 2000 + 100 + 2000);
        GalleyDesk beyond = Desks.with("0 0 000");
        beyond.glue(6, 19, 2);
        beyond.measure(50, 50, 0);
        // 26 in 50: 100 * 24^3 / 19^3 = 201.
        DUE.is("1: badness 201", beyond.line(0, 3), 201);
        DUE.is("1: badness 201 is not tolerated", beyond.demerits(0), -1);
        GalleyDesk costly = Desks.with("000000000000");
        costly.pattern(0, -1, -1, 1);
        costly.measure(65, 65, 0);
        DUE.is("1: cost", costly.demerits(0), 100 + 2500 + 100);
        DUE.is("1: height", Desks.pages(Desks.with("0/0/0/0/0/0/0")), "0 0 0 0 0 0 1");
    }

    private static void putAddsInOrder() {
        GalleyDesk desk = new GalleyDesk();
        for (int i = 0; i < 10; i++) {
            desk.width(i, 10 + i);
        }
        DUE.is("2: four", desk.put(1, 2, 3, 4), 4);
        DUE.is("2: wrong codes are left out", desk.put(12, 5, -1, 6), 6);
        DUE.is("2: only wrong codes", desk.put(LEAST, MOST, 12, -1), 6);
        for (int i = 0; i < 6; i++) {
            DUE.is("2: place " + i, desk.span(i, i + 1), 11 + i);
        }
        DUE.is("2: the greatest codes", desk.put(10, 11, 9, 0), 10);
        DUE.is("2: behind them", desk.span(8, 9), 19);
    }

    private static void putStopsAtTheEnd() {
        GalleyDesk desk = new GalleyDesk();
        desk.width(1, 20);
        for (int i = 0; i < 11; i++) {
            desk.put(0, 0, 0, 0);
        }
        DUE.is("2: 46", desk.put(0, 12, 0, 12), 46);
        DUE.is("2: behind the 48th", desk.put(-1, 1, 1, 0), 48);
        DUE.is("2: full", desk.put(0, 0, 0, 0), 48);
        DUE.is("2: the 48th", desk.span(46, 48), 40);
        DUE.is("2: no 49th", desk.span(47, 49), -1);
    }

    private static void wipeEmptiesTheTextOnly() {
        GalleyDesk desk = Desks.with("00 0");
        desk.width(0, 17);
        DUE.is("3: before", desk.lines(), 1);
        DUE.is("3: wipe", desk.wipe(), 4);
        DUE.is("3: lines", desk.lines(), 0);
        DUE.is("3: span", desk.span(0, 1), -1);
        DUE.is("3: glyph", desk.glyph(0), -1);
        DUE.is("3: again", desk.wipe(), 0);
        DUE.is("3: from the start", desk.put(0, -1, -1, -1), 1);
        DUE.is("3: widths stay", desk.span(0, 1), 17);
    }

    private static void widthTakesAndRefuses() {
        GalleyDesk desk = Desks.with("09");
        DUE.yes("4: least", desk.width(0, 6));
        DUE.yes("4: greatest", desk.width(9, 30));
        DUE.is("4: sum", desk.span(0, 2), 36);
        int[][] wrong = {{-1, 10}, {10, 10}, {0, 5}, {0, 31}, {LEAST, 10}, {MOST, 10}, {9, LEAST}, {9, MOST}};
        for (int[] w : wrong) {
            DUE.no("4: width " + w[0] + " " + w[1], desk.width(w[0], w[1]));
        }
        DUE.is("4: nothing changed", desk.span(0, 2), 36);
    }

    private static void ligatureTakesAndRefuses() {
        GalleyDesk desk = Desks.with("0199");
        desk.width(3, 13);
        desk.width(4, 14);
        DUE.yes("5: new", desk.ligature(0, 1, 3));
        DUE.is("5: joined", desk.span(0, 2), 13);
        DUE.yes("5: instead", desk.ligature(0, 1, 4));
        DUE.is("5: joined otherwise", desk.span(0, 2), 14);
        int[][] wrong = {{-1, 1, 3}, {10, 1, 3}, {0, -1, 3}, {0, 10, 3}, {0, 1, -2}, {0, 1, 10},
            {LEAST, 1, 3}, {0, MOST, 3}, {0, 1, LEAST}, {0, 1, MOST}};
        for (int[] w : wrong) {
            DUE.no("5: ligature " + w[0] + " " + w[1] + " " + w[2], desk.ligature(w[0], w[1], w[2]));
        }
        DUE.is("5: nothing changed", desk.span(0, 2), 14);
        DUE.yes("5: away", desk.ligature(0, 1, -1));
        DUE.is("5: apart", desk.span(0, 2), 20);
        DUE.yes("5: away where none is", desk.ligature(0, 1, -1));
    }

    private static void ligaturesAreEight() {
        GalleyDesk desk = Desks.with("7990");
        for (int x = 0; x < 8; x++) {
            DUE.yes("5: ligature " + x, desk.ligature(x, 9, 0));
        }
        DUE.no("5: a ninth", desk.ligature(9, 9, 0));
        DUE.is("5: no ninth", desk.span(1, 3), 20);
        // The document refuses whenever there are eight others, whatever z is.
        DUE.no("5: away where none is and eight others are", desk.ligature(9, 9, -1));
        DUE.yes("5: the eighth otherwise", desk.ligature(7, 9, 1));
        DUE.no("5: still eight", desk.ligature(9, 9, 0));
        DUE.yes("5: one away", desk.ligature(0, 9, -1));
        DUE.yes("5: away twice counts once", desk.ligature(0, 9, -1));
        DUE.yes("5: room again", desk.ligature(9, 9, 0));
        DUE.no("5: for one only", desk.ligature(8, 9, 0));
        DUE.is("5: 9 9 0 joined", desk.span(1, 4), 20);
    }

    private static void kernTakesAndRefuses() {
        GalleyDesk desk = Desks.with("0910");
        DUE.yes("6: least", desk.kern(0, 9, -5));
        DUE.is("6: narrower", desk.span(0, 2), 15);
        DUE.yes("6: greatest", desk.kern(9, 1, 5));
        DUE.is("6: wider", desk.span(1, 3), 25);
        DUE.is("6: not the other way round", desk.span(2, 4), 20);
        int[][] wrong = {{-1, 9, 1}, {10, 9, 1}, {0, -1, 1}, {0, 10, 1}, {0, 9, -6}, {0, 9, 6},
            {LEAST, 9, 1}, {0, MOST, 1}, {0, 9, LEAST}, {0, 9, MOST}};
        for (int[] w : wrong) {
            DUE.no("6: kern " + w[0] + " " + w[1] + " " + w[2], desk.kern(w[0], w[1], w[2]));
        }
        DUE.is("6: nothing changed", desk.span(0, 3), 30);
        DUE.yes("6: none again", desk.kern(0, 9, 0));
        DUE.is("6: as wide as both", desk.span(0, 2), 20);
    }

    private static void patternTakesAndRefuses() {
        GalleyDesk desk = Desks.with("0011");
        int[][] right = {{0, -1, -1, 99}, {10, 0, -1, 999}, {0, 10, -1, 999}, {10, 0, 10, 9999}, {0, 0, 0, 9999},
            {10, 9, 9, 1}, {9, 9, 10, 1}, {9, 9, 9, 0}};
        for (int[] r : right) {
            DUE.yes("7: pattern " + r[0] + " " + r[1] + " " + r[2] + " " + r[3], desk.pattern(r[0], r[1], r[2], r[3]));
        }
        DUE.yes("7: between", desk.pattern(0, 1, -1, 110));
        DUE.yes("7: hyphen", desk.hyphen(2));
        for (int[] r : right) {
            DUE.yes("7: away", desk.pattern(r[0], r[1], r[2], 0));
        }
        DUE.yes("7: hyphen by this one alone", desk.hyphen(2));
        int[][] wrong = {{-1, 1, -1, 10}, {11, 1, -1, 10}, {0, -2, -1, 10}, {0, 11, -1, 10}, {0, 1, -2, 10},
            {0, 1, 11, 10}, {0, -1, 1, 10}, {0, 10, 1, 10}, {10, 10, 1, 10}, {0, 10, 10, 10}, {10, -1, -1, 10},
            {10, 10, -1, 10}, {10, 10, 10, 10}, {0, 1, -1, -1}, {0, 1, -1, 1000}, {0, -1, -1, 100},
            {0, 1, 1, 10000}, {LEAST, 1, -1, 0}, {0, MOST, -1, 0}, {0, 1, LEAST, 0}, {0, 1, -1, LEAST},
            {0, 1, -1, MOST}, {10, -1, -1, 0}, {0, 10, 1, 0}};
        for (int[] w : wrong) {
            DUE.no("7: pattern " + w[0] + " " + w[1] + " " + w[2] + " " + w[3], desk.pattern(w[0], w[1], w[2], w[3]));
        }
        DUE.yes("7: nothing changed", desk.hyphen(2));
        DUE.yes("7: instead", desk.pattern(0, 1, -1, 120));
        DUE.no("7: an even digit", desk.hyphen(2));
        DUE.yes("7: instead again", desk.pattern(0, 1, -1, 30));
        DUE.yes("7: an odd digit", desk.hyphen(2));
        DUE.yes("7: no such pattern", desk.pattern(0, 1, -1, 0));
        DUE.no("7: no digit", desk.hyphen(2));
    }

    private static void patternsAreTen() {
        GalleyDesk desk = Desks.with("9999");
        for (int a = 0; a < 9; a++) {
            DUE.yes("7: pattern " + a, desk.pattern(a, -1, -1, 1));
        }
        DUE.yes("7: the tenth", desk.pattern(0, 0, -1, 10));
        DUE.no("7: an eleventh", desk.pattern(9, -1, -1, 1));
        DUE.no("7: no eleventh", desk.hyphen(2));
        // The document refuses whenever there are ten others, whatever the digits are.
        DUE.no("7: away where none is and ten others are", desk.pattern(9, -1, -1, 0));
        DUE.yes("7: the tenth otherwise", desk.pattern(0, 0, -1, 20));
        DUE.no("7: still ten", desk.pattern(9, -1, -1, 1));
        DUE.yes("7: one away", desk.pattern(3, -1, -1, 0));
        DUE.yes("7: away twice counts once", desk.pattern(3, -1, -1, 0));
        DUE.yes("7: room again", desk.pattern(9, -1, -1, 1));
        DUE.no("7: for one only", desk.pattern(3, -1, -1, 1));
        DUE.yes("7: hyphen", desk.hyphen(2));
    }

    private static void measureTakesAndRefuses() {
        GalleyDesk desk = Desks.with("00000000000000");
        desk.pattern(0, -1, -1, 1);
        DUE.yes("8: measure", desk.measure(65, 85, 1));
        DUE.is("8: first, then rest", Desks.shown(desk), "0-6:65:0- 6-14:80:0");
        int[][] wrong = {{19, 20, 0}, {301, 20, 0}, {20, 19, 0}, {20, 301, 0}, {20, 20, -1}, {20, 20, 4},
            {LEAST, 20, 0}, {MOST, 20, 0}, {20, LEAST, 0}, {20, MOST, 0}, {20, 20, LEAST}, {20, 20, MOST}};
        for (int[] w : wrong) {
            DUE.no("8: measure " + w[0] + " " + w[1] + " " + w[2], desk.measure(w[0], w[1], w[2]));
        }
        DUE.is("8: nothing changed", Desks.shown(desk), "0-6:65:0- 6-14:80:0");
        DUE.yes("8: three first lines", desk.measure(55, 45, 3));
        DUE.is("8: three, of which the last is not full", Desks.shown(desk), "0-5:55:0- 5-10:55:0- 10-14:40:0");
        DUE.yes("8: no first line", desk.measure(20, 300, 0));
        DUE.is("8: rest alone", Desks.shown(desk), "0-14:140:0");
        DUE.yes("8: greatest and least", desk.measure(300, 20, 3));
        DUE.is("8: first alone", Desks.shown(desk), "0-14:140:0");
    }

    private static void glueTakesAndRefuses() {
        GalleyDesk desk = Desks.with("00 00 00");
        DUE.yes("9: least", desk.glue(1, 0, 0));
        DUE.is("9: narrow", desk.line(0, 2), 62);
        DUE.yes("9: greatest", desk.glue(20, 20, 20));
        DUE.is("9: wide", desk.line(0, 2), 100);
        int[][] wrong = {{0, 1, 0}, {21, 1, 1}, {6, -1, 1}, {6, 21, 1}, {6, 1, -1}, {6, 1, 7},
            {LEAST, 1, 1}, {MOST, 1, 1}, {6, LEAST, 1}, {6, MOST, 1}, {6, 1, LEAST}, {6, 1, MOST}};
        for (int[] w : wrong) {
            DUE.no("9: glue " + w[0] + " " + w[1] + " " + w[2], desk.glue(w[0], w[1], w[2]));
        }
        DUE.is("9: nothing changed", desk.line(0, 2), 100);
        desk.wipe();
        Desks.put(desk, "00 00");
        desk.measure(40, 40, 0);
        DUE.is("9: spaces shrink to nothing", Desks.shown(desk), "0-5:60:100");
    }

    private static void rulesTakesAndRefuses() {
        GalleyDesk desk = Desks.with("000000000000");
        desk.pattern(0, -1, -1, 1);
        desk.measure(65, 65, 0);
        DUE.yes("10: least", desk.rules(0, 0, 1));
        DUE.is("10: no cost", desk.demerits(0), 200);
        DUE.is("10: one line a page", Desks.pages(desk), "0 1");
        DUE.yes("10: greatest", desk.rules(10000, 200, 12));
        DUE.is("10: cost", desk.demerits(0), 40200);
        DUE.is("10: one page", Desks.pages(desk), "0 0");
        int[][] wrong = {{-1, 50, 6}, {10001, 50, 6}, {200, -1, 6}, {200, 201, 6}, {200, 50, 0}, {200, 50, 13},
            {LEAST, 50, 6}, {MOST, 50, 6}, {200, LEAST, 6}, {200, MOST, 6}, {200, 50, LEAST}, {200, 50, MOST}};
        for (int[] w : wrong) {
            DUE.no("10: rules " + w[0] + " " + w[1] + " " + w[2], desk.rules(w[0], w[1], w[2]));
        }
        DUE.is("10: nothing changed", desk.demerits(0), 40200);
        desk.measure(66, 66, 0);
        DUE.is("10: badness 10000 is tolerated", desk.line(0, 3), 10000);
        DUE.is("10: and is no emergency", desk.demerits(0), 100200100 + 40000 + 2000 + 100 + 2000);
        desk.rules(9999, 200, 12);
        DUE.is("10: badness 10000 is not tolerated", desk.demerits(0), -1);
    }

    public static void main(String[] args) {
        newObjectIsEmpty();
        newObjectHasPlainLetters();
        newObjectHasTheNamedRules();
        putAddsInOrder();
        putStopsAtTheEnd();
        wipeEmptiesTheTextOnly();
        widthTakesAndRefuses();
        ligatureTakesAndRefuses();
        ligaturesAreEight();
        kernTakesAndRefuses();
        patternTakesAndRefuses();
        patternsAreTen();
        measureTakesAndRefuses();
        glueTakesAndRefuses();
        rulesTakesAndRefuses();
        DUE.end();
    }
}
