import java.util.Map;
import java.util.function.Predicate;

/** Promises 4 to 10: what each change takes at the ends of its ranges, and what it refuses behind them. */
public final class SettingsTest {
    private static final Due DUE = new Due("SettingsTest");
    private static final int LEAST = Integer.MIN_VALUE;
    private static final int MOST = Integer.MAX_VALUE;

    /** "Letter l becomes w wide: true": the first letter and the last one, the least width and the greatest. */
    private static void widthTakes() {
        int[] letters = {0, 1, 8, 9};
        int[] widths = {6, 7, 29, 30};
        for (int l : letters) {
            for (int w : widths) {
                GalleyDesk desk = Desks.with("0123456789");
                DUE.yes("4: width " + l + " " + w, desk.width(l, w));
                for (int i = 0; i < 10; i++) {
                    DUE.is("4: width of " + i, desk.span(i, i + 1), i == l ? w : 10);
                }
            }
        }
    }

    /** "false, and nothing changes, if l is not 0..9 or w not 6..30" */
    private static void widthRefuses() {
        Refusals desks = new Refusals(DUE, () -> Desks.with("0123456789 0 9"));
        int[][] wrong = {{-1, 12}, {10, 12}, {0, 5}, {0, 31}, {9, 5}, {9, 31}, {9, 0}, {9, -6}, {LEAST, 12},
            {MOST, 12}, {9, LEAST}, {9, MOST}};
        for (int[] w : wrong) {
            desks.refuses("4: width " + w[0] + " " + w[1], desk -> desk.width(w[0], w[1]));
        }
    }

    /** "The ligature x y z": the first and last letter as each of the three. */
    private static void ligatureTakes() {
        int[] ends = {0, 9};
        for (int x : ends) {
            for (int y : ends) {
                for (int z : ends) {
                    GalleyDesk desk = Desks.with("" + x + y + " " + (9 - x) + (9 - y));
                    DUE.yes("5: ligature " + x + y + z, desk.ligature(x, y, z));
                    String due = z + " " + z + " -1 " + (9 - x) + " " + (9 - y);
                    DUE.is("5: glyphs with " + x + y + z, Desks.glyphs(desk), due);
                }
            }
        }
    }

    /** "instead of one that begins with the same two": in their order. */
    private static void ligatureInsteadOfAnother() {
        GalleyDesk desk = Desks.with("01 10");
        desk.ligature(0, 1, 3);
        DUE.is("5: one", Desks.glyphs(desk), "3 3 -1 1 0");
        DUE.yes("5: instead", desk.ligature(0, 1, 4));
        DUE.is("5: another", Desks.glyphs(desk), "4 4 -1 1 0");
        DUE.yes("5: the other way round", desk.ligature(1, 0, 5));
        DUE.is("5: both", Desks.glyphs(desk), "4 4 -1 5 5");
    }

    /** "z -1: no ligature of these two any more: true", also if there was none. */
    private static void ligatureTakenAway() {
        GalleyDesk desk = Desks.with("01 10");
        desk.ligature(0, 1, 3);
        desk.ligature(1, 0, 4);
        DUE.yes("5: away", desk.ligature(0, 1, -1));
        DUE.is("5: the other stays", Desks.glyphs(desk), "0 1 -1 4 4");
        DUE.yes("5: away where none is", desk.ligature(0, 1, -1));
        DUE.is("5: as before", Desks.glyphs(desk), "0 1 -1 4 4");
    }

    private static GalleyDesk withLigature() {
        // Were 10 or -1 taken for a letter, a pair with one could be mistaken for 1 0 or 0 9.
        GalleyDesk desk = Desks.with("01 10 09 90 99 00");
        desk.ligature(0, 1, 3);
        return desk;
    }

    /** "False, and nothing changes, if x or y is not 0..9, z not -1..9" */
    private static void ligatureRefuses() {
        Refusals desks = new Refusals(DUE, SettingsTest::withLigature);
        int[][] wrong = {{-1, 1, 5}, {10, 1, 5}, {0, -1, 5}, {0, 10, 5}, {1, -1, 5}, {9, 10, 5}, {0, 1, -2},
            {0, 1, 10}, {0, 0, -2}, {0, 0, 10}, {-1, 1, -1}, {0, 10, -1}, {LEAST, 1, 5}, {MOST, 1, 5},
            {0, LEAST, 5}, {0, MOST, 5}, {0, 1, LEAST}, {0, 1, MOST}};
        for (int[] w : wrong) {
            desks.refuses("5: ligature " + w[0] + " " + w[1] + " " + w[2], desk -> desk.ligature(w[0], w[1], w[2]));
        }
    }

    private static GalleyDesk withEightLigatures() {
        GalleyDesk desk = Desks.with("09 19 29 39 49 59 69 79 89 99");
        for (int x = 0; x < 8; x++) {
            DUE.yes("5: ligature number " + x, desk.ligature(x, 9, 9 - x));
        }
        return desk;
    }

    /** "False, and nothing changes, if ... there are 8 others": the eighth is taken, a ninth is not. */
    private static void theNinthLigatureIsRefused() {
        DUE.is("5: eight", Desks.glyphs(withEightLigatures()),
            "9 9 -1 8 8 -1 7 7 -1 6 6 -1 5 5 -1 4 4 -1 3 3 -1 2 2 -1 8 9 -1 9 9");
        Refusals desks = new Refusals(DUE, SettingsTest::withEightLigatures);
        desks.refuses("5: a ninth", desk -> desk.ligature(8, 9, 0));
        desks.refuses("5: a ninth that becomes its first letter", desk -> desk.ligature(9, 9, 9));
        // The words refuse whenever there are eight others, whatever z is.
        desks.refuses("5: away where none is", desk -> desk.ligature(8, 9, -1));
    }

    /** With eight, one of them has only seven others. */
    private static void oneOfEightLigaturesIsTaken() {
        GalleyDesk desk = withEightLigatures();
        DUE.yes("5: the eighth otherwise", desk.ligature(7, 9, 6));
        DUE.is("5: otherwise", desk.glyph(21), 6);
        DUE.yes("5: the first otherwise", desk.ligature(0, 9, 5));
        DUE.is("5: otherwise", desk.glyph(0), 5);
        DUE.no("5: there are still eight", desk.ligature(8, 9, 0));
        DUE.yes("5: one away", desk.ligature(0, 9, -1));
        DUE.is("5: away", desk.glyph(0), 0);
        DUE.yes("5: away twice counts once", desk.ligature(0, 9, -1));
        DUE.yes("5: room again", desk.ligature(8, 9, 0));
        DUE.is("5: the new one", desk.glyph(24), 0);
        DUE.no("5: for one only", desk.ligature(9, 9, 0));
        DUE.no("5: nor for the one that was", desk.ligature(0, 9, 9));
    }

    /** Calls that are refused, that replace one or that take one away leave room for eight. */
    private static void onlyNewLigaturesTakeRoom() {
        GalleyDesk desk = new GalleyDesk();
        for (int i = 0; i < 20; i++) {
            desk.ligature(0, 0, 10);
            desk.ligature(10, 0, 0);
            desk.ligature(0, 0, i % 10);
            desk.ligature(5, 5, -1);
        }
        for (int y = 1; y < 8; y++) {
            DUE.yes("5: one more " + y, desk.ligature(0, y, 0));
        }
        DUE.no("5: the ninth", desk.ligature(0, 8, 0));
    }

    /** "The kern of x y becomes k: true": the first and last letter, the least kern and the greatest. */
    private static void kernTakes() {
        int[] ends = {0, 9};
        int[] kerns = {-5, -4, 0, 4, 5};
        for (int x : ends) {
            for (int y : ends) {
                for (int k : kerns) {
                    GalleyDesk desk = Desks.with("" + x + y + " " + (9 - x) + (9 - y));
                    desk.kern(x, y, 3);
                    DUE.yes("6: kern " + x + y + " " + k, desk.kern(x, y, k));
                    DUE.is("6: these two", desk.span(0, 2), 20 + k);
                    DUE.is("6: two others", desk.span(3, 5), 20);
                }
            }
        }
        GalleyDesk turned = Desks.with("0110");
        turned.kern(0, 1, 4);
        DUE.is("6: in their order", turned.span(0, 2), 24);
        DUE.is("6: not the other way round", turned.span(2, 4), 20);
        DUE.is("6: each place where they stand", turned.span(0, 4), 44);
    }

    private static GalleyDesk withKern() {
        GalleyDesk desk = Desks.with("01 10 09 90 99 00");
        desk.kern(0, 1, 2);
        return desk;
    }

    /** "false, and nothing changes, if x or y is not 0..9 or k not -5..5" */
    private static void kernRefuses() {
        Refusals desks = new Refusals(DUE, SettingsTest::withKern);
        int[][] wrong = {{-1, 1, 1}, {10, 1, 1}, {0, -1, 1}, {0, 10, 1}, {1, -1, 1}, {9, 10, 1}, {0, 1, -6}, {0, 1, 6},
            {0, 0, -6}, {0, 0, 6}, {0, 10, 0}, {LEAST, 1, 1}, {MOST, 1, 1}, {0, LEAST, 1}, {0, MOST, 1},
            {0, 1, LEAST}, {0, 1, MOST}};
        for (int[] w : wrong) {
            desks.refuses("6: kern " + w[0] + " " + w[1] + " " + w[2], desk -> desk.kern(w[0], w[1], w[2]));
        }
    }

    /** "FIRST, REST and N: true": the least and greatest of each, with a line that is exactly as wide. */
    private static void measureTakes() {
        GalleyDesk desk = Desks.with("00 00 00 00 00");
        DUE.yes("8: least", desk.measure(20, 20, 0));
        DUE.is("8: 20 wide", Desks.shown(desk), "0-2:20:0 3-5:20:0 6-8:20:0 9-11:20:0 12-14:20:0");
        DUE.is("8: 20 wide", desk.demerits(0), 500);
        desk.width(0, 30);
        desk.glue(20, 0, 0);
        desk.rules(10000, 0, 6);
        DUE.yes("8: greatest rest", desk.measure(20, 300, 0));
        // Four words are 240 and their spaces 60 wide.
        DUE.is("8: 300 wide", Desks.shown(desk), "0-11:300:0 12-14:60:0");
        DUE.yes("8: greatest first", desk.measure(300, 60, 1));
        DUE.is("8: the first line 300 wide", Desks.shown(desk), "0-11:300:0 12-14:60:0");
        DUE.is("8: the first line 300 wide", desk.demerits(0), 200);
        DUE.yes("8: both greatest", desk.measure(300, 300, 3));
        DUE.is("8: both lines", Desks.shown(desk), "0-11:300:0 12-14:60:0");
        DUE.yes("8: one less", desk.measure(299, 299, 0));
        DUE.is("8: 299 wide", Desks.shown(desk), "0-8:220:10000 9-14:140:0");
    }

    /** "n ... 0..3": so many lines are FIRST wide, all behind them REST. */
    private static void measureTakesEveryN() {
        String[] due = {
            "0-2 3-5 6-8 9-11 12-14 15-17 18-20 21-23",
            "0-5 6-8 9-11 12-14 15-17 18-20 21-23",
            "0-5 6-11 12-14 15-17 18-20 21-23",
            "0-5 6-11 12-17 18-20 21-23"};
        for (int n = 0; n <= 3; n++) {
            GalleyDesk desk = Desks.with("00 00 00 00 00 00 00 00");
            DUE.yes("8: N " + n, desk.measure(46, 20, n));
            DUE.is("8: N " + n, Desks.shown(desk).replaceAll(":[0-9]+:0", ""), due[n]);
        }
    }

    private static GalleyDesk stretchedAndShrunk() {
        GalleyDesk desk = Desks.with("00 00 00 00 00 00 00 00");
        desk.measure(47, 70, 1);
        return desk;
    }

    /** "false, and nothing changes, if first or rest is not 20..300 or n not 0..3" */
    private static void measureRefuses() {
        DUE.is("8: before", Desks.shown(stretchedAndShrunk()), "0-5:46:3 6-14:72:12 15-23:72:12");
        Refusals desks = new Refusals(DUE, SettingsTest::stretchedAndShrunk);
        int[][] wrong = {{19, 100, 2}, {301, 100, 2}, {100, 19, 2}, {100, 301, 2}, {100, 100, -1}, {100, 100, 4},
            {0, 100, 2}, {100, -20, 2}, {LEAST, 100, 2}, {MOST, 100, 2}, {100, LEAST, 2}, {100, MOST, 2},
            {100, 100, LEAST}, {100, 100, MOST}};
        for (int[] w : wrong) {
            desks.refuses("8: measure " + w[0] + " " + w[1] + " " + w[2], desk -> desk.measure(w[0], w[1], w[2]));
        }
    }

    /** "Width ... of spaces: true": the least and the greatest. */
    private static void glueTakesWidths() {
        GalleyDesk desk = Desks.with("00 00 00");
        DUE.yes("9: least", desk.glue(1, 0, 0));
        DUE.is("9: 1 wide", desk.line(0, 2), 62);
        DUE.yes("9: greatest", desk.glue(20, 20, 20));
        DUE.is("9: 20 wide", desk.line(0, 2), 100);
    }

    /** "stretch ... of spaces": 0 stretches nowhere, 20 is the greatest. */
    private static void glueTakesStretches() {
        GalleyDesk desk = Desks.with("00 00 0000");
        desk.measure(56, 56, 0);
        DUE.yes("9: no stretch", desk.glue(6, 0, 0));
        DUE.is("9: no stretch", Desks.shown(desk), "0-5:46:10000 6-10:40:0");
        DUE.yes("9: least stretch", desk.glue(6, 1, 0));
        DUE.is("9: stretch 1", desk.line(0, 3), 10000);
        DUE.yes("9: greatest stretch", desk.glue(6, 20, 0));
        // 100 * 10^3 / 20^3 = 12
        DUE.is("9: stretch 20", desk.line(0, 3), 12);
    }

    /** "or shrink not 0..wide": from 0 to as much as the space is wide. */
    private static void glueTakesShrinks() {
        int[] widths = {1, 6, 20};
        for (int wide : widths) {
            GalleyDesk desk = Desks.with("00 00");
            desk.measure(40, 40, 0);
            DUE.yes("9: shrink " + wide, desk.glue(wide, 3, wide));
            DUE.is("9: the space shrinks to nothing", Desks.shown(desk), "0-5:" + (40 + wide) + ":100");
            DUE.is("9: the second word stands at the first", desk.position(3), 20);
            DUE.yes("9: shrink one less", desk.glue(wide, 3, wide - 1));
            DUE.is("9: one less", desk.lines(), 2);
            DUE.yes("9: no shrink", desk.glue(wide, 3, 0));
            DUE.is("9: none", desk.lines(), 2);
            DUE.no("9: more than it is wide", desk.glue(wide, 3, wide + 1));
        }
    }

    /** "false, and nothing changes, if wide is not 1..20, stretch not 0..20, or shrink not 0..wide" */
    private static void glueRefuses() {
        Refusals desks = new Refusals(DUE, SettingsTest::stretchedAndShrunk);
        int[][] wrong = {{0, 9, 0}, {21, 9, 5}, {-1, 9, 0}, {4, -1, 1}, {4, 21, 1}, {4, 9, -1}, {4, 9, 5}, {1, 9, 2},
            {20, 9, 21}, {0, 9, 1}, {LEAST, 9, 1}, {MOST, 9, 1}, {4, LEAST, 1}, {4, MOST, 1}, {4, 9, LEAST},
            {4, 9, MOST}};
        for (int[] w : wrong) {
            desks.refuses("9: glue " + w[0] + " " + w[1] + " " + w[2], desk -> desk.glue(w[0], w[1], w[2]));
        }
    }

    /** "TOLERANCE": 0 takes only lines without badness, 10000 takes all that are not overfull. */
    private static void rulesTakesTolerances() {
        GalleyDesk desk = Desks.with("00 00 00");
        desk.measure(46, 46, 0);
        DUE.yes("10: least", desk.rules(0, 0, 6));
        DUE.is("10: badness 0 is tolerated", desk.demerits(0), 200);
        desk.glue(6, 5, 2);
        desk.measure(48, 48, 0);
        // 100 * 2^3 / 5^3 = 6
        DUE.is("10: badness 6", desk.line(0, 3), 6);
        DUE.is("10: more than 0 is not tolerated", desk.demerits(0), -1);
        desk.rules(5, 0, 6);
        DUE.is("10: more than 5 is not tolerated", desk.demerits(0), -1);
        desk.rules(6, 0, 6);
        DUE.is("10: 6 is tolerated", desk.demerits(0), 256 + 100);
        desk.glue(6, 0, 2);
        DUE.yes("10: one less than the greatest", desk.rules(9999, 0, 6));
        DUE.is("10: badness 10000", desk.line(0, 3), 10000);
        DUE.is("10: 10000 is not tolerated", desk.demerits(0), -1);
        DUE.yes("10: greatest", desk.rules(10000, 0, 6));
        DUE.is("10: 10000 is tolerated", desk.demerits(0), 10010L * 10010 + 2000 + 100 + 2000);
        desk.measure(20, 20, 0);
        desk.width(0, 11);
        DUE.is("10: an overfull line is not", desk.demerits(0), -1);
    }

    /** "COST": from 0 to 200. */
    private static void rulesTakesCosts() {
        GalleyDesk desk = Desks.with("000000000000");
        desk.pattern(0, -1, -1, 1);
        desk.measure(65, 65, 0);
        int[] costs = {0, 1, 199, 200};
        for (int cost : costs) {
            DUE.yes("10: cost " + cost, desk.rules(200, cost, 6));
            DUE.is("10: cost " + cost, desk.demerits(0), 100 + cost * cost + 100);
        }
    }

    /** "HEIGHT": from one line a page to twelve. */
    private static void rulesTakesHeights() {
        GalleyDesk desk = Desks.with("0/".repeat(13));
        DUE.yes("10: least", desk.rules(200, 50, 1));
        DUE.is("10: 1 high", Desks.pages(desk), "0 1 2 3 4 5 6 7 8 9 10 11 12");
        DUE.yes("10: greatest", desk.rules(200, 50, 12));
        DUE.is("10: 12 high", Desks.pages(desk), "0 0 0 0 0 0 0 0 0 0 0 0 1");
    }

    private static GalleyDesk feasibleAndNot() {
        // A paragraph with a hyphen, one that badness 10000 makes an emergency, and four of one line.
        GalleyDesk desk = Desks.with("000000000000/11111 11111/1 1/1/1/1");
        desk.pattern(0, -1, -1, 1);
        desk.measure(65, 65, 0);
        return desk;
    }

    /** "false, and nothing changes, if tolerance is not 0..10000, cost not 0..200, or height not 1..12" */
    private static void rulesRefuses() {
        DUE.is("10: before", Desks.demerits(feasibleAndNot()), "2700 -1 100 100 100 100");
        DUE.is("10: before", Desks.pages(feasibleAndNot()), "0 0 0 0 0 0 1 1");
        Refusals desks = new Refusals(DUE, SettingsTest::feasibleAndNot);
        int[][] wrong = {{-1, 7, 3}, {10001, 7, 3}, {10000, -1, 3}, {10000, 201, 3}, {10000, 7, 0}, {10000, 7, 13},
            {10000, 7, -1}, {LEAST, 7, 3}, {MOST, 7, 3}, {10000, LEAST, 3}, {10000, MOST, 3}, {10000, 7, LEAST},
            {10000, 7, MOST}};
        for (int[] w : wrong) {
            desks.refuses("10: rules " + w[0] + " " + w[1] + " " + w[2], desk -> desk.rules(w[0], w[1], w[2]));
        }
    }

    /** Lines that have been asked for are set anew behind every change. */
    private static void changesShowBehindLines() {
        Map<String, Predicate<GalleyDesk>> changes = Map.of(
            "width", desk -> desk.width(1, 13),
            "ligature", desk -> desk.ligature(1, 1, 2),
            "kern", desk -> desk.kern(1, 1, 3),
            "pattern", desk -> desk.pattern(1, 1, -1, 10),
            "pattern away", desk -> desk.pattern(0, -1, -1, 0),
            "measure", desk -> desk.measure(75, 85, 1),
            "glue", desk -> desk.glue(8, 9, 1),
            "rules", desk -> desk.rules(10000, 20, 3));
        String untouched = Desks.everything(feasibleAndNot());
        changes.forEach((name, change) -> {
            GalleyDesk before = feasibleAndNot();
            DUE.yes(name, change.test(before));
            String due = Desks.everything(before);
            DUE.no(name + " shows nowhere", due.equals(untouched));
            GalleyDesk behind = feasibleAndNot();
            behind.lines();
            change.test(behind);
            DUE.is(name + " behind lines()", Desks.everything(behind), due);
        });
    }

    public static void main(String[] args) {
        widthTakes();
        widthRefuses();
        ligatureTakes();
        ligatureInsteadOfAnother();
        ligatureTakenAway();
        ligatureRefuses();
        theNinthLigatureIsRefused();
        oneOfEightLigaturesIsTaken();
        onlyNewLigaturesTakeRoom();
        kernTakes();
        kernRefuses();
        measureTakes();
        measureTakesEveryN();
        measureRefuses();
        glueTakesWidths();
        glueTakesStretches();
        glueTakesShrinks();
        glueRefuses();
        rulesTakesTolerances();
        rulesTakesCosts();
        rulesTakesHeights();
        rulesRefuses();
        changesShowBehindLines();
        DUE.end();
    }
}
