/** Promises 7 and 12: the patterns, and the hyphens that they allow. */
public final class PatternsTest {
    private static final Due DUE = new Due("PatternsTest");
    private static final int LEAST = Integer.MIN_VALUE;
    private static final int MOST = Integer.MAX_VALUE;

    private static GalleyDesk with(String text, int a, int b, int c, int digits) {
        GalleyDesk desk = Desks.with(text);
        DUE.yes("7: pattern " + a + " " + b + " " + c + " " + digits, desk.pattern(a, b, c, digits));
        return desk;
    }

    /** "A PATTERN has one to three letters": the first letter and the last one at each place. */
    private static void patternTakesLetters() {
        int[] ends = {0, 9};
        for (int a : ends) {
            DUE.is("7: one letter", Desks.hyphens(with("55" + a + "55", a, -1, -1, 11)), "2 3");
            for (int b : ends) {
                String two = "55" + a + b + "55";
                DUE.is("7: two letters", Desks.hyphens(with(two, a, b, -1, 111)), "2 3 4");
                for (int c : ends) {
                    String three = "55" + a + b + c + "55";
                    DUE.is("7: three letters", Desks.hyphens(with(three, a, b, c, 1111)), "2 3 4 5");
                }
            }
        }
    }

    /** "(10 among them, at the beginning or end": alone at either side, and at both. */
    private static void patternTakesTens() {
        DUE.is("7: 10 0", Desks.hyphens(with("0000", 10, 0, -1, 999)), "");
        DUE.is("7: 0 10", Desks.hyphens(with("0000", 0, 10, -1, 999)), "");
        DUE.is("7: 10 0 10", Desks.hyphens(with("0 0000", 10, 0, 10, 9999)), "");
        DUE.is("7: 10 0 0", Desks.hyphens(with("000000", 10, 0, 0, 9999)), "2");
        DUE.is("7: 0 0 10", Desks.hyphens(with("000000", 0, 0, 10, 9999)), "4");
        DUE.is("7: 10 9 9", Desks.hyphens(with("999999", 10, 9, 9, 9999)), "2");
        DUE.is("7: 9 9 10", Desks.hyphens(with("999999", 9, 9, 10, 9999)), "4");
    }

    /** "digits: its two to four digits ... as a decimal number, first the one before a" */
    private static void digitsStandInTheirOrder() {
        int[] tens = {1, 10, 100, 1000};
        for (int i = 0; i < 4; i++) {
            if (i < 2) {
                DUE.is("7: of one letter " + i, Desks.hyphens(with("99099", 0, -1, -1, tens[i])), "" + (3 - i));
            }
            if (i < 3) {
                DUE.is("7: of two letters " + i, Desks.hyphens(with("990199", 0, 1, -1, tens[i])), "" + (4 - i));
            }
            DUE.is("7: of three letters " + i, Desks.hyphens(with("9901299", 0, 1, 2, tens[i])), "" + (5 - i));
        }
        DUE.is("7: greatest of one", Desks.hyphens(with("99099", 0, -1, -1, 99)), "2 3");
        DUE.is("7: greatest of two", Desks.hyphens(with("990199", 0, 1, -1, 999)), "2 3 4");
        DUE.is("7: greatest of three", Desks.hyphens(with("9901299", 0, 1, 2, 9999)), "2 3 4 5");
        DUE.is("7: odd and even", Desks.hyphens(with("9901299", 0, 1, 2, 1234)), "2 4");
    }

    /** "instead of one with the same": letters that differ in number or in a 10 are not the same. */
    private static void patternInsteadOfTheSame() {
        GalleyDesk desk = with("990199", 0, 1, -1, 111);
        DUE.is("7: one", Desks.hyphens(desk), "2 3 4");
        DUE.yes("7: instead", desk.pattern(0, 1, -1, 10));
        DUE.is("7: only the new digits", Desks.hyphens(desk), "3");
        DUE.yes("7: instead again", desk.pattern(0, 1, -1, 20));
        DUE.is("7: even", Desks.hyphens(desk), "");
        int[][] others = {{0, -1, -1}, {1, 0, -1}, {10, 0, 1}, {0, 1, 10}, {0, 1, 0}, {0, 0, 1}, {10, 0, -1}};
        for (int[] o : others) {
            GalleyDesk both = with("990199", 0, 1, -1, 10);
            DUE.yes("7: another", both.pattern(o[0], o[1], o[2], 2));
            DUE.yes("7: another away", both.pattern(o[0], o[1], o[2], 0));
            DUE.is("7: the first stays", Desks.hyphens(both), "3");
        }
    }

    /** "All digits 0: no such pattern any more. True", also if there was none. */
    private static void patternTakenAway() {
        GalleyDesk desk = with("990199", 0, 1, -1, 10);
        desk.pattern(1, -1, -1, 1);
        DUE.is("7: two", Desks.hyphens(desk), "3 4");
        DUE.yes("7: away", desk.pattern(0, 1, -1, 0));
        DUE.is("7: the other stays", Desks.hyphens(desk), "4");
        DUE.yes("7: away where none is", desk.pattern(0, 1, -1, 0));
        DUE.yes("7: away where none was", desk.pattern(5, 5, 5, 0));
        DUE.is("7: as before", Desks.hyphens(desk), "4");
        DUE.yes("7: the other away", desk.pattern(1, -1, -1, 0));
        DUE.is("7: none", Desks.hyphens(desk), "");
    }

    private static GalleyDesk withPattern() {
        // Were -2 or 11 taken for a letter, a pattern with one could be mistaken for one that meets here.
        GalleyDesk desk = Desks.with("990199 99199 990299 9900 99099");
        desk.pattern(0, 1, -1, 10);
        return desk;
    }

    private static void refuses(int[][] wrong) {
        Refusals desks = new Refusals(DUE, PatternsTest::withPattern);
        for (int[] w : wrong) {
            String what = "7: pattern " + w[0] + " " + w[1] + " " + w[2] + " " + w[3];
            desks.refuses(what, desk -> desk.pattern(w[0], w[1], w[2], w[3]));
        }
    }

    /** "false, and nothing changes, if a is not 0..10, b or c not -1..10" */
    private static void patternRefusesLetters() {
        refuses(new int[][] {{-1, 1, -1, 111}, {-1, -1, -1, 11}, {-1, 0, 1, 111}, {11, -1, -1, 11}, {11, 1, -1, 111},
            {0, -2, -1, 11}, {0, 11, -1, 111}, {0, 1, -2, 111}, {0, 1, 11, 1111}, {0, 0, 11, 1111},
            {LEAST, 1, -1, 111}, {MOST, 1, -1, 111}, {0, LEAST, -1, 11}, {0, MOST, -1, 111}, {0, 1, LEAST, 111},
            {0, 1, MOST, 1111}, {-1, 1, -1, 0}, {11, 1, -1, 0}, {0, 11, -1, 0}, {0, 1, 11, 0}});
    }

    /** "c is there without b" */
    private static void patternRefusesAGap() {
        refuses(new int[][] {{0, -1, 1, 111}, {0, -1, 0, 11}, {0, -1, 10, 111}, {10, -1, 0, 111}, {0, -1, 1, 0}});
    }

    /** "a 10 stands neither at the beginning nor at the end" */
    private static void patternRefusesATenInside() {
        refuses(new int[][] {{0, 10, 1, 1111}, {0, 10, 0, 1111}, {10, 10, 1, 1111}, {0, 10, 10, 1111}, {0, 10, 1, 0}});
    }

    /** "there are only 10s" */
    private static void patternRefusesOnlyTens() {
        refuses(new int[][] {{10, -1, -1, 11}, {10, 10, -1, 111}, {10, 10, 10, 1111}, {10, -1, -1, 0},
            {10, 10, -1, 0}, {10, 10, 10, 0}});
    }

    /** "digits is below 0 or has more digits than that": one more than letters, 10s counted. */
    private static void patternRefusesDigits() {
        refuses(new int[][] {{0, -1, -1, -1}, {0, -1, -1, 100}, {0, 1, -1, -1}, {0, 1, -1, 1000}, {0, 1, 9, -1},
            {0, 1, 9, 10000}, {10, 9, -1, 1000}, {10, 9, 9, 10000}, {9, 9, 10, 10000}, {0, -1, -1, LEAST},
            {0, -1, -1, MOST}, {0, 1, -1, LEAST}, {0, 1, -1, MOST}, {0, 1, 9, LEAST}, {0, 1, 9, MOST}});
        int[][] right = {{0, -1, -1, 99}, {0, 1, -1, 999}, {10, 9, -1, 999}, {9, 10, -1, 999}, {0, 1, 9, 9999},
            {10, 9, 9, 9999}, {9, 9, 10, 9999}, {10, 9, 10, 9999}};
        for (int[] r : right) {
            DUE.yes("7: digits " + r[3], withPattern().pattern(r[0], r[1], r[2], r[3]));
        }
    }

    private static GalleyDesk withTenPatterns() {
        GalleyDesk desk = Desks.with("99099 99199 99799 99899 9999 0000");
        for (int a = 0; a < 8; a++) {
            DUE.yes("7: pattern number " + a, desk.pattern(a, -1, -1, 10));
        }
        DUE.yes("7: the ninth", desk.pattern(0, 0, -1, 20));
        DUE.yes("7: the tenth", desk.pattern(10, 0, 0, 3));
        return desk;
    }

    /** "or there are 10 others": the tenth is taken, an eleventh is not. */
    private static void theEleventhPatternIsRefused() {
        DUE.is("7: ten", Desks.hyphens(withTenPatterns()), "2 8 14 31");
        Refusals desks = new Refusals(DUE, PatternsTest::withTenPatterns);
        desks.refuses("7: an eleventh", desk -> desk.pattern(8, -1, -1, 10));
        desks.refuses("7: an eleventh of three", desk -> desk.pattern(9, 9, 10, 1000));
        // The words refuse whenever there are ten others, whatever the digits are.
        desks.refuses("7: away where none is", desk -> desk.pattern(8, -1, -1, 0));
    }

    /** With ten, one of them has only nine others. */
    private static void oneOfTenPatternsIsTaken() {
        GalleyDesk desk = withTenPatterns();
        DUE.yes("7: the tenth otherwise", desk.pattern(10, 0, 0, 2));
        DUE.is("7: otherwise", Desks.hyphens(desk), "2 8 14");
        DUE.no("7: there are still ten", desk.pattern(8, -1, -1, 10));
        DUE.yes("7: one away", desk.pattern(7, -1, -1, 0));
        DUE.is("7: away", Desks.hyphens(desk), "2 8");
        DUE.yes("7: away twice counts once", desk.pattern(7, -1, -1, 0));
        DUE.yes("7: room again", desk.pattern(8, -1, -1, 10));
        DUE.is("7: the new one", Desks.hyphens(desk), "2 8 20");
        DUE.no("7: for one only", desk.pattern(9, -1, -1, 10));
        DUE.no("7: nor for the one that was", desk.pattern(7, -1, -1, 10));
    }

    /** Calls that are refused, that replace one or that take one away leave room for ten. */
    private static void onlyNewPatternsTakeRoom() {
        GalleyDesk desk = new GalleyDesk();
        for (int i = 0; i < 20; i++) {
            desk.pattern(0, 0, -1, 1000);
            desk.pattern(11, 0, -1, 1);
            desk.pattern(0, 0, -1, i + 1);
            desk.pattern(5, 5, -1, 0);
        }
        for (int b = 1; b < 10; b++) {
            DUE.yes("7: one more " + b, desk.pattern(0, b, -1, 1));
        }
        DUE.no("7: the eleventh", desk.pattern(1, 0, -1, 1));
    }

    /** "(10 among them ... means that the word begins or ends there)": behind 10, 11 and the text's ends. */
    private static void tensMeetBeginningsAndEnds() {
        DUE.is("12: at the beginning", Desks.hyphens(with("0122 20122/0122 0122", 10, 0, 1, 1)), "2 13 18");
        DUE.is("12: at the end", Desks.hyphens(with("2201 22012/2201 2201", 0, 1, 10, 1000)), "2 13 18");
        DUE.is("12: spaces around", Desks.hyphens(with("  0122  /  2201  ", 10, 0, 1, 1)), "4");
        DUE.is("12: spaces around", Desks.hyphens(with("  0122  /  2201  ", 0, 1, 10, 1000)), "13");
    }

    /** "(those before a 10 at the beginning and behind one at the end count nowhere)" */
    private static void digitsOutsideCountNowhere() {
        DUE.is("12: before", Desks.hyphens(with("9999 0199 9999", 10, 0, 1, 9000)), "");
        DUE.is("12: at the beginning", Desks.hyphens(with("9999 0199 9999", 10, 0, 1, 900)), "");
        DUE.is("12: behind", Desks.hyphens(with("9999 9901 9999", 0, 1, 10, 9)), "");
        DUE.is("12: at the end", Desks.hyphens(with("9999 9901 9999", 0, 1, 10, 90)), "");
    }

    /** "It meets a word everywhere where its letters stand in the word": overlapping, and at both its ends. */
    private static void patternsMeetEverywhere() {
        // It meets at 0 to 4, so that its digit stands at 1 to 5.
        DUE.is("12: overlapping", Desks.hyphens(with("0000000", 0, 0, 0, 100)), "2 3 4 5");
        DUE.is("12: first letters", Desks.hyphens(with("0199", 0, 1, -1, 1)), "2");
        DUE.is("12: last letters", Desks.hyphens(with("9901", 0, 1, -1, 100)), "2");
        DUE.is("12: all letters but one", Desks.hyphens(with("0129", 0, 1, 2, 10)), "2");
        DUE.is("12: in every word", Desks.hyphens(with("9019 9019/9019", 0, 1, -1, 10)), "2 7 12");
    }

    /** A pattern that is longer than the word, or stands in two words, does not meet it. */
    private static void patternsMeetNoFurther() {
        DUE.is("12: longer", Desks.hyphens(with("00 00/00", 0, 0, 0, 9999)), "");
        DUE.is("12: not over a space", Desks.hyphens(with("9990 1999", 0, 1, -1, 999)), "");
        DUE.is("12: not over an end", Desks.hyphens(with("9990/1999", 0, 1, -1, 999)), "");
        DUE.is("12: 10 is not inside", Desks.hyphens(with("990199", 10, 0, 1, 9999)), "");
        DUE.is("12: 10 is not inside", Desks.hyphens(with("990199", 0, 1, 10, 9999)), "");
    }

    /** Patterns meet the letters of the word, whatever glyphs become of them. */
    private static void patternsMeetLetters() {
        GalleyDesk desk = with("9019", 0, 1, -1, 10);
        desk.ligature(0, 1, 5);
        DUE.is("12: letters", Desks.hyphens(desk), "2");
        desk.pattern(5, -1, -1, 88);
        DUE.is("12: not glyphs", Desks.hyphens(desk), "2");
    }

    /** "At each place the greatest digit counts, 0 if there is none": each digit beside each other one. */
    private static void theGreatestDigitCounts() {
        DUE.is("12: none", Desks.hyphens(Desks.with("20122")), "");
        for (int one = 0; one <= 9; one++) {
            for (int other = 0; other <= 9; other++) {
                GalleyDesk desk = Desks.with("20122");
                desk.pattern(0, 1, -1, one * 10);
                desk.pattern(1, 2, 2, other * 1000);
                int greatest = one > other ? one : other;
                DUE.is("12: " + one + " and " + other, Desks.hyphens(desk), greatest % 2 == 1 ? "2" : "");
            }
        }
    }

    /** The greatest digit counts also among those of one pattern that meets the word twice. */
    private static void aPatternMeetsBesideItself() {
        DUE.is("12: 1 above 0", Desks.hyphens(with("90009", 0, 0, -1, 1)), "3");
        // At place 2 only the middle one of its digits 0 1 2 stands, at 3 and 4 the last one stands beside it.
        DUE.is("12: 2 above 1", Desks.hyphens(with("900009", 0, 0, -1, 12)), "2");
        DUE.is("12: 3 above 2", Desks.hyphens(with("900009", 0, 0, -1, 23)), "3 4");
    }

    /** "if the digit that counts there is odd" */
    private static void oddDigitsAllow() {
        for (int digit = 1; digit <= 9; digit++) {
            DUE.is("12: " + digit, Desks.hyphens(with("9909", 0, -1, -1, digit * 10)), digit % 2 == 1 ? "2" : "");
        }
    }

    /** "at least two letters of the word stand before and at least two behind place i" */
    private static void twoLettersStandOnEitherSide() {
        String[] due = {"", "", "", "", "2", "2 3", "2 3 4"};
        for (int letters = 0; letters < due.length; letters++) {
            String word = "0".repeat(letters);
            DUE.is("12: " + letters + " letters", Desks.hyphens(with(word, 0, -1, -1, 11)), due[letters]);
        }
        DUE.is("12: short words", Desks.hyphens(with("000 000/000 00 00", 0, -1, -1, 11)), "");
        GalleyDesk full = with("0".repeat(48), 0, -1, -1, 11);
        for (int i = -1; i <= 49; i++) {
            DUE.is("12: in a full text before " + i, full.hyphen(i) ? 1 : 0, i >= 2 && i <= 46 ? 1 : 0);
        }
    }

    /** "Whether a hyphen may stand before place i of the text": not where no letter stands. */
    private static void hyphensNeedALetter() {
        int[] wrong = {-1, 4, 9, 14, 15, 47, 48, LEAST, MOST};
        for (int i : wrong) {
            DUE.no("12: hyphen " + i, with("0000 0000/0000", 0, -1, -1, 11).hyphen(i));
        }
        GalleyDesk empty = with("", 0, -1, -1, 11);
        int[] places = {-1, 0, 1, 2, 47, 48, LEAST, MOST};
        for (int i : places) {
            DUE.no("12: hyphen " + i + " in the empty text", empty.hyphen(i));
        }
    }

    public static void main(String[] args) {
        patternTakesLetters();
        patternTakesTens();
        digitsStandInTheirOrder();
        patternInsteadOfTheSame();
        patternTakenAway();
        patternRefusesLetters();
        patternRefusesAGap();
        patternRefusesATenInside();
        patternRefusesOnlyTens();
        patternRefusesDigits();
        theEleventhPatternIsRefused();
        oneOfTenPatternsIsTaken();
        onlyNewPatternsTakeRoom();
        tensMeetBeginningsAndEnds();
        digitsOutsideCountNowhere();
        patternsMeetEverywhere();
        patternsMeetNoFurther();
        patternsMeetLetters();
        theGreatestDigitCounts();
        aPatternMeetsBesideItself();
        oddDigitsAllow();
        twoLettersStandOnEitherSide();
        hyphensNeedALetter();
        DUE.end();
    }
}
