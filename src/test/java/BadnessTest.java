/** Promises 14 and 17: the badness of lines, their classes, and the demerits that come of both. */
public final class BadnessTest {
    private static final Due DUE = new Due("BadnessTest");
    private static final int LEAST = Integer.MIN_VALUE;
    private static final int MOST = Integer.MAX_VALUE;

    /** A desk of which the first line of each paragraph should be this wide, and all others 300. */
    private static GalleyDesk desk(String text, int first) {
        GalleyDesk desk = Desks.with(text);
        desk.measure(first, 300, 1);
        desk.rules(10000, 0, 6);
        return desk;
    }

    /** "d = 0: badness 0", though nothing can stretch or shrink. */
    private static void nothingOver() {
        GalleyDesk bare = desk("00 000000", 20);
        bare.glue(6, 0, 0);
        DUE.is("14: no spaces", Desks.shown(bare), "0-2:20:0 3-9:60:0");
        GalleyDesk stiff = desk("00 00 000000", 46);
        stiff.glue(6, 0, 0);
        DUE.is("14: a space that gives nothing", Desks.shown(stiff), "0-5:46:0 6-12:60:0");
        DUE.is("14: the last line", Desks.shown(desk("00", 20)), "0-2:20:0");
        DUE.is("17: all of them", stiff.demerits(0), 200);
    }

    /** "d above 0: in the last line of the paragraph 0": however much, and with nothing that stretches. */
    private static void lastLinesMayBeShort() {
        GalleyDesk desk = Desks.with("0");
        desk.measure(300, 300, 0);
        DUE.is("14: 290 over", desk.line(0, 3), 0);
        DUE.is("17: 290 over", desk.demerits(0), 100);
        GalleyDesk two = desk("00 00 00", 47);
        two.glue(6, 0, 0);
        two.measure(47, 21, 1);
        DUE.is("14: 1 over, the last line or not", Desks.shown(two), "0-5:46:10000 6-8:20:0");
    }

    /** "else 100 d^3 / (G * stretch)^3 (no fraction)" */
    private static void stretchedLines() {
        int[] first = {47, 48, 49, 50, 56, 66};
        int[] due = {3, 29, 100, 237, 3703, 10000};
        for (int i = 0; i < first.length; i++) {
            DUE.is("14: " + first[i] + " wide", desk("00 00 0000000", first[i]).line(0, 3), due[i]);
        }
        GalleyDesk two = desk("00 00 00 0000000", 74);
        // With two spaces, 100 * 2^3 / (2 * 3)^3 is 3.7.
        DUE.is("14: two spaces", Desks.shown(two), "0-8:72:3 9-16:70:0");
        GalleyDesk soft = desk("00 00 0000000", 47);
        soft.glue(6, 20, 0);
        DUE.is("14: less than 1", soft.line(0, 3), 0);
        DUE.is("17: less than 1", soft.demerits(0), 200);
    }

    /** "but at most 10000": 9996 is the nearest below it, and the greatest d does not wrap around. */
    private static void badnessIsAtMost10000() {
        GalleyDesk desk = Desks.with("00 00 00 00 1111111111");
        desk.width(1, 30);
        desk.glue(13, 13, 0);
        desk.rules(10000, 0, 6);
        // 119 in 300: 100 * 181^3 / 39^3 = 9996.3.
        desk.measure(300, 300, 1);
        DUE.is("14: 9996", Desks.shown(desk), "0-11:119:9996 12-22:300:0");
        DUE.is("17: 9996", desk.demerits(0), 10006L * 10006 + 2000 + 100 + 2000);
        desk.width(0, 9);
        // 111 in 300: 100 * 189^3 / 39^3 is 11381.
        DUE.is("14: above", Desks.shown(desk), "0-11:111:10000 12-22:300:0");
        DUE.is("17: above", desk.demerits(0), 10010L * 10010 + 2000 + 100 + 2000);
        GalleyDesk far = Desks.with("0 0 1111111111");
        far.width(0, 6);
        far.width(1, 30);
        far.glue(1, 20, 0);
        far.rules(10000, 0, 6);
        far.measure(300, 300, 0);
        // 100 * 287^3 is more than an int holds.
        DUE.is("14: far above", Desks.shown(far), "0-3:13:10000 4-14:300:0");
    }

    /** "and 10000 if G * stretch is 0": without a space, and with one that does not stretch. */
    private static void nothingStretches() {
        DUE.is("14: no space", Desks.shown(desk("00 00000000", 21)), "0-2:20:10000 3-11:80:0");
        GalleyDesk desk = desk("00 00 00000000", 47);
        desk.glue(6, 0, 2);
        DUE.is("14: stretch 0", Desks.shown(desk), "0-5:46:10000 6-14:80:0");
    }

    /** "d below 0: OVERFULL if G * shrink is less than -d": as much is not yet less. */
    private static void overfullLines() {
        GalleyDesk desk = Desks.with("00 00");
        desk.measure(44, 44, 0);
        DUE.is("14: all that one space can", Desks.shown(desk), "0-5:46:100");
        desk.measure(43, 43, 0);
        DUE.is("14: one more", Desks.shown(desk), "0-2:20:10000 3-5:20:0");
        GalleyDesk two = Desks.with("00 00 00");
        two.measure(68, 68, 0);
        DUE.is("14: all that two spaces can", Desks.shown(two), "0-8:72:100");
        two.measure(67, 67, 0);
        DUE.is("14: one more", two.lines(), 2);
        GalleyDesk stiff = Desks.with("00 00");
        stiff.glue(6, 3, 0);
        stiff.measure(46, 46, 0);
        DUE.is("14: shrink 0, nothing to shrink", stiff.lines(), 1);
        stiff.measure(45, 45, 0);
        DUE.is("14: shrink 0", stiff.lines(), 2);
        GalleyDesk bare = Desks.with("000");
        bare.measure(29, 29, 0);
        DUE.is("14: no space", Desks.shown(bare), "0-3:30:-1");
    }

    /** "else 100 (-d)^3 / (G * shrink)^3 (no fraction)": in the last line, too. */
    private static void shrunkLines() {
        GalleyDesk desk = Desks.with("00 00");
        desk.glue(20, 3, 20);
        int[] wide = {59, 50, 49, 41, 40};
        int[] due = {0, 12, 16, 85, 100};
        for (int i = 0; i < wide.length; i++) {
            desk.measure(wide[i], wide[i], 0);
            DUE.is("14: 60 in " + wide[i], Desks.shown(desk), "0-5:60:" + due[i]);
        }
        GalleyDesk two = desk("00 00 00 0000000", 70);
        // With two spaces, 100 * 2^3 / (2 * 2)^3 is 12.5.
        DUE.is("14: two spaces", Desks.shown(two), "0-8:72:12 9-16:70:0");
    }

    /** Two lines of two words each, so that only one way is feasible: of each class one width, with its badness. */
    private static final int[] WIDE_OF_CLASS = {53, 60, 66, 70};
    private static final long[] BADNESS_OF_CLASS = {19, 0, 21, 100};

    private static long jump(int one, int other) {
        return one - other > 1 || other - one > 1 ? 2000 : 0;
    }

    /** "plus 2000 if its class and that of the line before it (1 for the first line) differ by more than 1" */
    private static void classesThatDiffer() {
        for (int one = 0; one < 4; one++) {
            for (int other = 0; other < 4; other++) {
                GalleyDesk desk = Desks.with("00 00 00 00 00");
                desk.glue(20, 10, 12);
                desk.rules(100, 0, 6);
                desk.measure(WIDE_OF_CLASS[one], WIDE_OF_CLASS[other], 1);
                String what = "17: class " + one + " and " + other;
                DUE.is(what, Desks.facts(desk, 3), BADNESS_OF_CLASS[one] + " " + BADNESS_OF_CLASS[other] + " 0");
                long first = 10 + BADNESS_OF_CLASS[one];
                long second = 10 + BADNESS_OF_CLASS[other];
                long due = first * first + jump(1, one) + second * second + jump(one, other) + 100 + jump(other, 1);
                DUE.is(what, desk.demerits(0), due);
            }
        }
    }

    /** "1 for the first line": not the class of the last line of the paragraph before. */
    private static void classesBeginAnew() {
        GalleyDesk desk = Desks.with("00 00/00 00 00");
        desk.glue(20, 10, 12);
        desk.measure(53, 53, 0);
        // Of class 0 is the one line of the first paragraph, as is the first line of the second one.
        DUE.is("17: tight", Desks.demerits(desk), (29 * 29) + " " + (29 * 29 + 100));
        desk.wipe();
        Desks.put(desk, "00 00/11 11 00");
        desk.width(1, 7);
        // 48 in 53: 100 * 5^3 / 10^3 = 12.
        DUE.is("17: then of class 1", Desks.demerits(desk), (29 * 29) + " " + (22 * 22 + 100));
        desk.kern(1, 1, -1);
        // 46 in 53: 100 * 7^3 / 10^3 = 34.
        DUE.is("14: class 0, then class 2", Desks.facts(desk, 3), "19 34 0");
        DUE.is("17: no jump over a paragraph's end", Desks.demerits(desk), (29 * 29) + " " + (44 * 44 + 100));
    }

    /** "Its CLASS is 1 if the badness is 12 or less; else 0 if d is below 0": before a line of class 2. */
    private static void tightLinesOfClass() {
        GalleyDesk desk = Desks.with("0 0 0 111 00 00 0000");
        desk.rules(50, 0, 6);
        desk.glue(12, 14, 12);
        // 96 in 78: 100 * 18^3 / 36^3 = 12; 52 in 60: 100 * 8^3 / 14^3 = 18.
        desk.measure(78, 60, 1);
        DUE.is("14: 12", Desks.shown(desk), "0-9:96:12 10-15:52:18 16-20:40:0");
        DUE.is("17: 12 is of class 1", desk.demerits(0), 22 * 22 + 28 * 28 + 100);
        desk.glue(9, 14, 9);
        // 87 in 73: 100 * 14^3 / 27^3 = 13; 49 in 57: 100 * 8^3 / 14^3 = 18.
        desk.measure(73, 57, 1);
        DUE.is("14: 13", Desks.shown(desk), "0-9:87:13 10-15:49:18 16-20:40:0");
        DUE.is("17: 13 is of class 0", desk.demerits(0), 23 * 23 + 28 * 28 + 2000 + 100);
    }

    /** "Its CLASS is 1 if the badness is 12 or less; else ... 2": behind a line of class 3. */
    private static void looseLinesOfClass() {
        GalleyDesk desk = Desks.with("00 00 00 00 00 00 0000");
        desk.glue(6, 10, 0);
        // 46 in 56 is of class 3; 98 in 113: 100 * 15^3 / 30^3 = 12.
        desk.measure(56, 113, 1);
        DUE.is("14: 12", Desks.shown(desk), "0-5:46:100 6-17:98:12 18-22:40:0");
        DUE.is("17: 12 is of class 1", desk.demerits(0), 110 * 110 + 2000 + 22 * 22 + 2000 + 100);
        desk.glue(6, 9, 0);
        // 46 in 55 is of class 3; 98 in 112: 100 * 14^3 / 27^3 = 13.
        desk.measure(55, 112, 1);
        DUE.is("14: 13", Desks.shown(desk), "0-5:46:100 6-17:98:13 18-22:40:0");
        DUE.is("17: 13 is of class 2", desk.demerits(0), 110 * 110 + 2000 + 23 * 23 + 100);
    }

    /** "2 if the badness is less than 100, else 3": no loose line can have 99, the nearest is 98. */
    private static void veryLooseLinesOfClass() {
        GalleyDesk desk = Desks.with("1 1 1 1 1 1 1 1 1 1 1 22222222");
        desk.width(1, 7);
        desk.width(2, 30);
        desk.glue(2, 20, 0);
        // 97 in 296: 100 * 199^3 / 200^3 = 98.
        desk.measure(296, 296, 0);
        DUE.is("14: 98", Desks.shown(desk), "0-21:97:98 22-30:240:0");
        DUE.is("17: 98 is of class 2", desk.demerits(0), 108 * 108 + 100);
        desk.measure(297, 297, 0);
        DUE.is("14: 100", Desks.shown(desk), "0-21:97:100 22-30:240:0");
        DUE.is("17: 100 is of class 3", desk.demerits(0), 110 * 110 + 2000 + 100 + 2000);
    }

    /** "for each line (10 + badness)^2": from 0 to the greatest, and of as many lines as there can be. */
    private static void demeritsOfBadness() {
        DUE.is("17: 0", Desks.with("0").demerits(0), 100);
        GalleyDesk desk = desk("00 00", 21);
        desk.measure(21, 21, 0);
        DUE.is("17: 10000", desk.demerits(0), 10010L * 10010 + 2000 + 100 + 2000);
        GalleyDesk many = Desks.with("0".repeat(48));
        many.pattern(0, -1, -1, 11);
        many.width(0, 6);
        many.measure(20, 20, 0);
        many.rules(10000, 0, 1);
        // 24 lines of two letters, 17 wide with their hyphens, are more than an int holds.
        DUE.is("13: two letters a line", many.lines(), 24);
        DUE.is("17: the sum", many.demerits(0), 23 * 10010L * 10010 + 22 * 3000 + 2000 + 100 + 2000);
    }

    /** "plus COST^2 if it ends with a hyphen, plus 3000 if it and the line before it do" */
    private static void demeritsOfHyphens() {
        String[] due = {"100", "2700", "8300", "13900"};
        for (int hyphens = 0; hyphens < due.length; hyphens++) {
            GalleyDesk desk = Desks.with("000000".repeat(hyphens + 1));
            desk.pattern(0, -1, -1, 1);
            desk.measure(65, 65, 0);
            DUE.is("14: " + hyphens + " hyphens", desk.lines(), hyphens + 1);
            DUE.is("17: " + hyphens + " hyphens", Desks.demerits(desk), due[hyphens]);
        }
        GalleyDesk apart = Desks.with("111011 2 111011");
        apart.width(2, 19);
        apart.pattern(0, -1, -1, 1);
        apart.measure(45, 45, 0);
        DUE.is("14: with a line between", Desks.shown(apart), "0-4:45:0- 4-8:45:0 9-13:45:0- 13-15:20:0");
        DUE.is("17: with a line between", apart.demerits(0), 100 + 2500 + 100 + 100 + 2500 + 100);
    }

    /** "-1 if they come of an emergency" */
    private static void demeritsOfAnEmergency() {
        GalleyDesk desk = Desks.with("000/0000/000");
        desk.measure(30, 30, 0);
        DUE.is("17: the second is too wide", Desks.demerits(desk), "100 -1 100");
        GalleyDesk loose = Desks.with("000 000");
        loose.measure(31, 31, 0);
        DUE.is("17: too loose", Desks.demerits(loose), "-1");
    }

    /** "-2 if there is no such paragraph": of those that are counted. */
    private static void thereIsNoSuchParagraph() {
        GalleyDesk desk = Desks.with("/0/ /0/");
        DUE.is("17: the first", desk.demerits(0), 100);
        DUE.is("17: the last", desk.demerits(1), 100);
        int[] none = {-1, 2, 3, 24, 47, 48, LEAST, MOST};
        for (int p : none) {
            DUE.is("17: demerits " + p, desk.demerits(p), -2);
            DUE.is("17: demerits " + p + " of the empty text", new GalleyDesk().demerits(p), -2);
        }
        GalleyDesk full = Desks.with("0/".repeat(24));
        DUE.is("17: the last of 24", full.demerits(23), 100);
        DUE.is("17: none behind", full.demerits(24), -2);
    }

    public static void main(String[] args) {
        nothingOver();
        lastLinesMayBeShort();
        stretchedLines();
        badnessIsAtMost10000();
        nothingStretches();
        overfullLines();
        shrunkLines();
        classesThatDiffer();
        classesBeginAnew();
        tightLinesOfClass();
        looseLinesOfClass();
        veryLooseLinesOfClass();
        demeritsOfBadness();
        demeritsOfHyphens();
        demeritsOfAnEmergency();
        thereIsNoSuchParagraph();
        DUE.end();
    }
}
