/** Promises 13, 14 and 17: which of the ways to break a paragraph is taken, and what is done if none is feasible. */
public final class WaysTest {
    private static final Due DUE = new Due("WaysTest");
    /** (10 + 10000)^2 */
    private static final long WORST = 100200100;

    /** "it is FEASIBLE if no line ... has a badness above TOLERANCE": as much is not above. */
    private static void badnessIsTolerated() {
        GalleyDesk desk = Desks.with("00 00 0000");
        desk.measure(49, 49, 0);
        int[] tolerance = {99, 100, 101};
        String[] due = {"-1", "16200", "16200"};
        for (int i = 0; i < tolerance.length; i++) {
            desk.rules(tolerance[i], 50, 6);
            DUE.is("13: badness 100, tolerance " + tolerance[i], Desks.shown(desk), "0-5:46:100 6-10:40:0");
            DUE.is("17: badness 100, tolerance " + tolerance[i], Desks.demerits(desk), due[i]);
        }
        GalleyDesk tight = Desks.with("00 00");
        tight.measure(44, 44, 0);
        tight.rules(99, 50, 6);
        DUE.is("17: a tight line above", Desks.demerits(tight), "-1");
        tight.rules(100, 50, 6);
        DUE.is("17: a tight line", Desks.demerits(tight), "12100");
    }

    /** "FEASIBLE if no line is overfull", whatever is tolerated. */
    private static void overfullIsNeverFeasible() {
        GalleyDesk desk = Desks.with("0000 00");
        desk.rules(10000, 0, 6);
        desk.measure(40, 40, 0);
        DUE.is("17: just as wide", Desks.demerits(desk), "" + 200);
        desk.measure(39, 39, 0);
        DUE.is("17: one less", Desks.demerits(desk), "-1");
        DUE.is("13: one less", Desks.shown(desk), "0-4:40:-1 5-7:20:0");
    }

    /** "THE LINES of a paragraph are those of the feasible way with the least demerits", not the fullest first. */
    private static void theLeastDemeritsAreTaken() {
        GalleyDesk desk = Desks.with("00 00 0 0000 00");
        desk.glue(6, 6, 3);
        desk.measure(56, 56, 0);
        desk.rules(10000, 50, 6);
        // With the third word 62 fits the first line, but then the second one has the fourth word alone.
        DUE.is("13: the best together", Desks.shown(desk), "0-5:46:462 6-12:56:0 13-15:20:0");
        GalleyDesk cheap = Desks.with("00 000000");
        cheap.pattern(0, -1, -1, 1);
        cheap.measure(61, 61, 0);
        cheap.rules(10000, 200, 6);
        DUE.is("13: a dear hyphen beside badness 10000", Desks.shown(cheap), "0-6:61:0- 6-9:30:0");
        cheap.rules(200, 200, 6);
        DUE.is("17: a dear hyphen", cheap.demerits(0), 100 + 40000 + 100);
    }

    /** "of several such ways that of which, going from the end back, the first breaks that differ lie later" */
    private static void laterBreaksWinATie() {
        GalleyDesk desk = Desks.with("0 0 0");
        desk.glue(6, 0, 2);
        desk.rules(10000, 0, 6);
        desk.measure(30, 30, 0);
        DUE.is("13: of two ways", Desks.shown(desk), "0-3:26:10000 4-5:10:0");
        DUE.is("17: of two ways", desk.demerits(0), WORST + 2000 + 100 + 2000);
        Desks.put(desk, " 0 0");
        DUE.is("13: of three ways", Desks.shown(desk), "0-3:26:10000 4-7:26:10000 8-9:10:0");
    }

    /** A tie of a way that ends with a loose line and one that ends with a tight line: the breaks alone decide. */
    private static void laterBreaksWinWhateverTheLastLineIs() {
        GalleyDesk loose = Desks.with("0 0 0 00");
        loose.glue(10, 5, 10);
        loose.rules(10000, 0, 6);
        loose.measure(30, 30, 0);
        // As good are 0-3:30:0 and 4-8:40:100.
        DUE.is("13: the loose line begins later", Desks.shown(loose), "0-5:50:100 6-8:20:0");
        DUE.is("17: the loose line begins later", loose.demerits(0), 110 * 110 + 100);
        GalleyDesk tight = Desks.with("33 34015 33");
        tight.width(1, 25);
        tight.width(4, 20);
        tight.ligature(4, 0, 6);
        tight.width(6, 9);
        tight.ligature(0, 1, 7);
        tight.width(7, 14);
        tight.pattern(0, -1, -1, 11);
        tight.glue(20, 0, 20);
        tight.rules(50, 0, 6);
        tight.measure(64, 64, 0);
        // As good are 0-5:75:16 and 5-11:64:0, as the letter 0 makes narrower what it joins.
        DUE.is("13: the tight line begins later", Desks.shown(tight), "0-6:64:0- 6-11:75:16");
        DUE.is("17: the tight line begins later", tight.demerits(0), 100 + 26 * 26);
    }

    /** "going from the end back": the last but one break is the same, and those before it decide. */
    private static void breaksFurtherBackDecideATie() {
        GalleyDesk desk = Desks.with("0 0 0 0000");
        desk.glue(6, 0, 0);
        desk.rules(10000, 0, 6);
        desk.measure(40, 40, 0);
        // The last line is that of four letters; 0 | 0 0 and 0 0 | 0 before it are as good as each other.
        DUE.is("13: the later one", Desks.shown(desk), "0-3:26:10000 4-5:10:10000 6-10:40:0");
        GalleyDesk classes = Desks.with("0 0 0 00");
        classes.glue(10, 5, 0);
        classes.rules(10000, 0, 6);
        classes.measure(30, 30, 0);
        // As good are 0-1:10:10000, 2-5:30:0 and 6-8, where the line before the last is of another class.
        DUE.is("13: of another class", Desks.shown(classes), "0-3:30:0 4-5:10:10000 6-8:20:0");
    }

    /** A tie of ways with different numbers of lines behind which the same breaks follow. */
    private static void numbersOfLinesDecideNoTie() {
        GalleyDesk fewer = Desks.with("2 2 0011111 2222222");
        fewer.pattern(0, 1, -1, 10);
        fewer.glue(6, 0, 0);
        fewer.rules(10000, 10, 6);
        fewer.measure(60, 70, 2);
        // As good, with the same break before the last line, is a way of four lines: 0-1 2-3 4-11 12-19.
        DUE.is("13: fewer lines", Desks.shown(fewer), "0-6:57:10000- 6-11:50:10000 12-19:70:0");
        DUE.is("17: fewer lines", fewer.demerits(0), 2 * WORST + 2000 + 100 + 2000 + 100);
        GalleyDesk more = Desks.with("0 0000 0 0000 000");
        more.pattern(0, -1, -1, 1);
        more.glue(10, 0, 0);
        more.rules(10000, 10, 6);
        more.measure(55, 40, 3);
        // As good, with the same break before the last line, is a way of four lines: 0-4 4-8 9-13 14-17.
        DUE.is("13: more lines", Desks.facts(more, 1), "1 6 8 13 17");
        DUE.is("17: more lines", more.demerits(0), 3 * WORST + 2000 + 100 + 2000 + 100);
    }

    /** "each line, from the first on, ends at the last of the breaks to which it would not be overfull" */
    private static void emergencyTakesTheLastThatFits() {
        GalleyDesk desk = Desks.with("00 00 00 00");
        desk.rules(0, 0, 6);
        desk.measure(68, 68, 0);
        // 72 shrinks to 68 and not to 67.
        DUE.is("13: just not overfull", Desks.shown(desk), "0-8:72:100 9-11:20:0");
        DUE.is("17: an emergency", desk.demerits(0), -1);
        desk.measure(67, 67, 0);
        DUE.is("13: just overfull", Desks.shown(desk), "0-5:46:10000 6-11:46:0");
        DUE.is("17: an emergency", desk.demerits(0), -1);
    }

    /** "the last of the breaks": also behind one to which it would be overfull. */
    private static void emergencyLooksBehindOverfullBreaks() {
        GalleyDesk desk = Desks.with("0000 0000");
        desk.ligature(0, 0, 0);
        desk.width(0, 16);
        desk.pattern(0, -1, -1, 1);
        desk.measure(20, 20, 0);
        // To the hyphen at 2 the line would be 21 wide, to the word's end it is 16 wide.
        DUE.is("13: behind an overfull one", Desks.shown(desk), "0-4:16:10000 5-9:16:0");
        DUE.is("17: an emergency", desk.demerits(0), -1);
        GalleyDesk between = Desks.with("0 0000 0000");
        between.ligature(0, 0, 0);
        between.width(0, 16);
        between.pattern(0, -1, -1, 1);
        between.measure(40, 40, 0);
        between.rules(0, 0, 6);
        // 16 to the first word's end, 43 to the hyphen behind it, 38 to the second word's end.
        DUE.is("13: behind an overfull one in between", Desks.shown(between), "0-6:38:29 7-11:16:0");
        DUE.is("17: badness 29 is not tolerated", between.demerits(0), -1);
    }

    /** "or at the next break if there is none": a hyphen, a word's end, the paragraph's end. */
    private static void emergencyTakesTheNextIfNoneFits() {
        GalleyDesk desk = Desks.with("0000 000 0");
        desk.width(0, 16);
        desk.pattern(0, -1, -1, 1);
        desk.measure(20, 20, 0);
        DUE.is("13: a hyphen, two words' ends", Desks.shown(desk), "0-2:37:-1- 2-4:32:-1 5-8:48:-1 9-10:16:0");
        GalleyDesk end = Desks.with("0 00");
        end.width(0, 16);
        end.measure(20, 20, 0);
        DUE.is("13: the paragraph's end", Desks.shown(end), "0-1:16:10000 2-4:32:-1");
        DUE.is("17: the paragraph's end", end.demerits(0), -1);
    }

    /** An emergency's lines are as wide as their numbers say, and it is one of its paragraph alone. */
    private static void emergencyKeepsToNumbersAndParagraphs() {
        GalleyDesk desk = Desks.with("0/000 000 000/0");
        desk.measure(36, 66, 1);
        DUE.is("13: line by line as wide as due", Desks.shown(desk), "0-1:10:0 2-5:30:10000 6-13:66:0 14-15:10:0");
        DUE.is("17: the one between", Desks.demerits(desk), "100 -1 100");
        GalleyDesk numbered = Desks.with("000 000 000 000 000 000");
        numbered.measure(31, 67, 3);
        DUE.is("13: three first lines", Desks.facts(numbered, 1), "3 7 11 19 23");
    }

    /** Hyphens of an emergency stand where those of a feasible way may. */
    private static void emergencyEndsWithHyphens() {
        GalleyDesk desk = Desks.with("00000000");
        desk.pattern(0, -1, -1, 1);
        desk.measure(46, 46, 0);
        DUE.is("13: the last hyphen that fits", Desks.shown(desk), "0-4:45:10000- 4-8:40:0");
        DUE.is("17: an emergency", desk.demerits(0), -1);
    }

    public static void main(String[] args) {
        badnessIsTolerated();
        overfullIsNeverFeasible();
        theLeastDemeritsAreTaken();
        laterBreaksWinATie();
        laterBreaksWinWhateverTheLastLineIs();
        breaksFurtherBackDecideATie();
        numbersOfLinesDecideNoTie();
        emergencyTakesTheLastThatFits();
        emergencyLooksBehindOverfullBreaks();
        emergencyTakesTheNextIfNoneFits();
        emergencyKeepsToNumbersAndParagraphs();
        emergencyEndsWithHyphens();
        DUE.end();
    }
}
