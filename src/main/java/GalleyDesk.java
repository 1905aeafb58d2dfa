/** Sets text in lines and pages; ../shared/DOC.md says what each public method promises. */
public final class GalleyDesk {
    private static final int NONE = -1;

    private static final int LETTERS = 10;
    private static final int PAIRS = LETTERS * LETTERS;
    private static final int SPACE = 10;
    private static final int PARAGRAPH_END = 11;
    private static final int MAX_TEXT = 48;

    private static final int MAX_LIGATURES = 8;
    private static final int MAX_PATTERNS = 10;
    private static final int PATTERN_LETTERS = 3;
    /** A letter of a pattern is -1..10. */
    private static final int PATTERN_CODES = 12;
    private static final int PATTERN_KEYS = PATTERN_CODES * PATTERN_CODES * PATTERN_CODES;
    private static final int LETTERS_BESIDE_HYPHEN = 2;
    private static final int HYPHEN_WIDTH = 5;

    private static final int OVERFULL = -1;
    private static final int WORST_BADNESS = 10000;
    private static final int CLASSES = 4;
    private static final int CLASS_BEFORE_FIRST = 1;
    private static final int TWO_HYPHENS_DEMERITS = 3000;
    private static final int CLASS_JUMP_DEMERITS = 2000;

    /** Every break needs a letter of its own; the beginning of the paragraph is kept as break 0. */
    private static final int MAX_BREAKS = MAX_TEXT + 1;
    /** N is at most 3, so all lines from number 3 on should be equally wide. */
    private static final int MAX_FIRST_LINES = 3;
    private static final int LINE_NUMBERS = MAX_FIRST_LINES + 1;
    private static final int STATES_PER_BREAK = LINE_NUMBERS * CLASSES;
    private static final int STATES = MAX_BREAKS * STATES_PER_BREAK;

    private static final int FACT_FROM = 0;
    private static final int FACT_TO = 1;
    private static final int FACT_WIDTH = 2;
    private static final int FACT_BADNESS = 3;
    private static final int FACT_HYPHEN = 4;
    private static final int FACT_PARAGRAPH = 5;
    private static final int FACT_PAGE = 6;
    /** The one fact that no caller may ask for: by how much the spaces of the line differ together. */
    private static final int FACT_EXTRA = 7;
    private static final int LINE_FACTS = 8;
    private static final int ALL_FACTS = MAX_TEXT * LINE_FACTS;

    private final int[] text = new int[MAX_TEXT];
    private int length = 0;

    private final int[] widths = new int[LETTERS];
    private final int[] ligatures = new int[PAIRS];
    private int ligatureCount = 0;
    private final int[] kerns = new int[PAIRS];
    /** The digits of every possible pattern; 0 means that there is none, as it does for the caller. */
    private final int[] patterns = new int[PATTERN_KEYS];
    private int patternCount = 0;

    private int firstWidth = 100;
    private int restWidth = 100;
    private int firstLines = 0;
    private int spaceWidth = 6;
    private int spaceStretch = 3;
    private int spaceShrink = 2;
    private int badnessAllowed = 200;
    private int hyphenCost = 50;
    private int pageHeight = 6;

    /** What was shaped last: for each letter the place where its glyph begins, and there the glyph. */
    private final int[] heads = new int[MAX_TEXT];
    private final int[] glyphs = new int[MAX_TEXT];

    /** The breaks of the paragraph at work: where a line ends there, and where the next one begins. */
    private final int[] breakEnd = new int[MAX_BREAKS];
    private final int[] breakNext = new int[MAX_BREAKS];
    private final boolean[] breakHyphen = new boolean[MAX_BREAKS];
    private final boolean[] breakTaken = new boolean[MAX_BREAKS];
    private int breakCount = 0;

    /** The best way to each state: a break, the number of lines up to it and the class of the last one. */
    private final long[] wayDemerits = new long[STATES];
    private final int[] wayBefore = new int[STATES];

    private final int[] lineFacts = new int[ALL_FACTS];
    private int lineCount = 0;
    private final long[] paragraphDemerits = new long[MAX_TEXT];
    private int paragraphCount = 0;
    /** Lines are set when they are asked for, not at every change, since a text comes in many calls. */
    private boolean stale = true;

    public GalleyDesk() {
        for (int i = 0; i < LETTERS; i++) {
            widths[i] = 10;
        }
        for (int i = 0; i < PAIRS; i++) {
            ligatures[i] = NONE;
        }
    }

    public int put(int a, int b, int c, int d) {
        addCode(a);
        addCode(b);
        addCode(c);
        addCode(d);
        return length;
    }

    public int wipe() {
        int was = length;
        length = 0;
        stale = true;
        return was;
    }

    public boolean width(int l, int w) {
        if (!within(l, 0, LETTERS - 1) || !within(w, 6, 30)) {
            return false;
        }
        widths[l] = w;
        stale = true;
        return true;
    }

    public boolean ligature(int x, int y, int z) {
        if (!isPair(x, y) || !within(z, NONE, LETTERS - 1)) {
            return false;
        }
        int pair = x * LETTERS + y;
        int others = ligatures[pair] == NONE ? ligatureCount : ligatureCount - 1;
        if (others >= MAX_LIGATURES) {
            return false;
        }
        ligatures[pair] = z;
        ligatureCount = z == NONE ? others : others + 1;
        stale = true;
        return true;
    }

    public boolean kern(int x, int y, int k) {
        if (!isPair(x, y) || !within(k, -5, 5)) {
            return false;
        }
        kerns[x * LETTERS + y] = k;
        stale = true;
        return true;
    }

    public boolean pattern(int a, int b, int c, int digits) {
        int size = patternSize(a, b, c);
        int greatest = greatestDigits(size);
        if (size == 0 || !within(digits, 0, greatest)) {
            return false;
        }
        int key = patternKey(a, b, c);
        int others = patterns[key] == 0 ? patternCount : patternCount - 1;
        if (others >= MAX_PATTERNS) {
            return false;
        }
        patterns[key] = digits;
        patternCount = digits == 0 ? others : others + 1;
        stale = true;
        return true;
    }

    public boolean measure(int first, int rest, int n) {
        if (!within(first, 20, 300) || !within(rest, 20, 300) || !within(n, 0, MAX_FIRST_LINES)) {
            return false;
        }
        firstWidth = first;
        restWidth = rest;
        firstLines = n;
        stale = true;
        return true;
    }

    public boolean glue(int wide, int stretch, int shrink) {
        if (!within(wide, 1, 20) || !within(stretch, 0, 20) || !within(shrink, 0, wide)) {
            return false;
        }
        spaceWidth = wide;
        spaceStretch = stretch;
        spaceShrink = shrink;
        stale = true;
        return true;
    }

    public boolean rules(int tolerance, int cost, int height) {
        if (!within(tolerance, 0, WORST_BADNESS) || !within(cost, 0, 200) || !within(height, 1, 12)) {
            return false;
        }
        badnessAllowed = tolerance;
        hyphenCost = cost;
        pageHeight = height;
        stale = true;
        return true;
    }

    public int span(int from, int to) {
        if (from < 0 || to > length || from >= to) {
            return NONE;
        }
        for (int i = from; i < to; i++) {
            if (text[i] >= LETTERS) {
                return NONE;
            }
        }
        shape(from, to);
        return reach(from, to, to, 0, 0);
    }

    public boolean hyphen(int i) {
        return mayHyphenate(i);
    }

    public int lines() {
        layOut();
        return lineCount;
    }

    public int line(int k, int what) {
        layOut();
        if (k < 0 || k >= lineCount || !within(what, FACT_FROM, FACT_PAGE)) {
            return NONE;
        }
        return lineFacts[k * LINE_FACTS + what];
    }

    public int glyph(int i) {
        layOut();
        int k = shapeLineAt(i);
        return k == NONE ? NONE : glyphs[heads[i]];
    }

    public int position(int i) {
        layOut();
        int k = shapeLineAt(i);
        if (k == NONE) {
            return NONE;
        }
        int row = k * LINE_FACTS;
        int from = lineFacts[row + FACT_FROM];
        int to = lineFacts[row + FACT_TO];
        int spaces = spacesIn(from, to);
        return reach(from, to, heads[i], lineFacts[row + FACT_EXTRA], spaces);
    }

    public long demerits(int p) {
        layOut();
        return p < 0 || p >= paragraphCount ? -2 : paragraphDemerits[p];
    }

    private static boolean within(int value, int least, int greatest) {
        return value >= least && value <= greatest;
    }

    private static boolean isPair(int x, int y) {
        return x >= 0 && x < LETTERS && y >= 0 && y < LETTERS;
    }

    private void addCode(int code) {
        if (code < 0 || code > PARAGRAPH_END || length >= MAX_TEXT) {
            return;
        }
        text[length] = code;
        length++;
        stale = true;
    }

    /** How many letters the pattern has, 10s counted, or 0 if these are not the letters of one. */
    private static int patternSize(int a, int b, int c) {
        if (!within(a, 0, SPACE) || !within(b, NONE, SPACE) || !within(c, NONE, SPACE)) {
            return 0;
        }
        if (b == NONE) {
            return c == NONE && a != SPACE ? 1 : 0;
        }
        if (c == NONE) {
            return a == SPACE && b == SPACE ? 0 : 2;
        }
        return b == SPACE ? 0 : 3;
    }

    private static int greatestDigits(int size) {
        int greatest = 9;
        for (int i = 0; i < size; i++) {
            greatest = greatest * 10 + 9;
        }
        return greatest;
    }

    private static int patternKey(int a, int b, int c) {
        return ((a + 1) * PATTERN_CODES + b + 1) * PATTERN_CODES + c + 1;
    }

    private boolean mayHyphenate(int place) {
        if (place < 0 || place >= length || text[place] >= LETTERS) {
            return false;
        }
        int wordFrom = place;
        for (int i = place - 1; i >= 0 && text[i] < LETTERS; i--) {
            wordFrom = i;
        }
        int wordTo = place + 1;
        for (int i = place + 1; i < length && text[i] < LETTERS; i++) {
            wordTo = i + 1;
        }
        if (place - wordFrom < LETTERS_BESIDE_HYPHEN || wordTo - place < LETTERS_BESIDE_HYPHEN) {
            return false;
        }
        return greatestDigitAt(place, wordFrom, wordTo) % 2 == 1;
    }

    private int greatestDigitAt(int place, int wordFrom, int wordTo) {
        int greatest = 0;
        for (int size = 1; size <= PATTERN_LETTERS; size++) {
            for (int index = 0; index <= size; index++) {
                int digit = patternDigit(place, size, index, wordFrom, wordTo);
                if (digit > greatest) {
                    greatest = digit;
                }
            }
        }
        return greatest;
    }

    /** Digit number index of the pattern of this size that meets the word so that this digit stands at the place. */
    private int patternDigit(int place, int size, int index, int wordFrom, int wordTo) {
        int from = place - index;
        if (from < wordFrom - 1 || from + size > wordTo + 1) {
            return 0;
        }
        int key = 0;
        for (int i = 0; i < PATTERN_LETTERS; i++) {
            int code = NONE;
            if (i < size) {
                code = from + i < wordFrom || from + i >= wordTo ? SPACE : text[from + i];
            }
            key = key * PATTERN_CODES + code + 1;
        }
        int digits = patterns[key];
        for (int i = index; i < size; i++) {
            digits = digits / 10;
        }
        return digits % 10;
    }

    /** Since the glyph behind the one at work is always still a single letter, one pass finds all ligatures. */
    private void shape(int from, int to) {
        int head = from;
        for (int i = from; i < to; i++) {
            if (text[i] >= LETTERS) {
                continue;
            }
            boolean inWord = i > from && text[i - 1] < LETTERS;
            int joined = inWord ? ligatures[glyphs[head] * LETTERS + text[i]] : NONE;
            if (joined == NONE) {
                head = i;
                glyphs[head] = text[i];
            } else {
                glyphs[head] = joined;
            }
            heads[i] = head;
        }
    }

    /** Where the glyph that begins at place target begins on its shaped line; where the line ends if target is to. */
    private int reach(int from, int to, int target, int extra, int spaces) {
        int x = 0;
        int before = from;
        int space = 0;
        for (int i = from; i < to; i++) {
            if (text[i] >= LETTERS || heads[i] != i) {
                continue;
            }
            if (i > from && text[i - 1] < LETTERS) {
                x += kerns[glyphs[before] * LETTERS + glyphs[i]];
            } else if (i > from) {
                x += spaceWidth;
                // Two rounded sums are subtracted so that no part of extra is lost over all spaces.
                x += spaces == 0 ? 0 : extra * (space + 1) / spaces - extra * space / spaces;
                space++;
            }
            if (i == target) {
                return x;
            }
            x += widths[glyphs[i]];
            before = i;
        }
        return x;
    }

    /** Several codes 10 in a row are one space, so words are counted, not codes. */
    private int spacesIn(int from, int to) {
        int spaces = 0;
        for (int i = from + 1; i < to; i++) {
            if (text[i] < LETTERS && text[i - 1] >= LETTERS) {
                spaces++;
            }
        }
        return spaces;
    }

    private void layOut() {
        if (!stale) {
            return;
        }
        lineCount = 0;
        paragraphCount = 0;
        int from = 0;
        for (int i = 0; i <= length; i++) {
            if (i < length && text[i] != PARAGRAPH_END) {
                continue;
            }
            collectBreaks(from, i);
            from = i + 1;
            if (breakCount == 0 || paragraphCount >= MAX_TEXT) {
                continue;
            }
            long least = takeBestWay();
            if (least == NONE) {
                takeEmergencyWay();
            }
            addLines();
            paragraphDemerits[paragraphCount] = least;
            paragraphCount++;
        }
        fillPages();
        stale = false;
    }

    private void collectBreaks(int from, int to) {
        breakCount = 0;
        for (int i = from; i < to; i++) {
            if (text[i] >= LETTERS) {
                continue;
            }
            boolean wordBegins = i == from || text[i - 1] >= LETTERS;
            if (wordBegins && breakCount > 0) {
                breakNext[breakCount - 1] = i;
            } else if (wordBegins) {
                addBreak(i, false);
            } else if (mayHyphenate(i)) {
                addBreak(i, true);
            }
            if (i + 1 == to || text[i + 1] >= LETTERS) {
                addBreak(i + 1, false);
            }
        }
    }

    private void addBreak(int place, boolean hyphenated) {
        if (breakCount >= MAX_BREAKS) {
            return;
        }
        breakEnd[breakCount] = place;
        breakNext[breakCount] = place;
        breakHyphen[breakCount] = hyphenated;
        breakTaken[breakCount] = false;
        breakCount++;
    }

    private int naturalWidth(int a, int b) {
        int from = breakNext[a];
        int to = breakEnd[b];
        shape(from, to);
        int natural = reach(from, to, to, 0, 0);
        return breakHyphen[b] ? natural + HYPHEN_WIDTH : natural;
    }

    private int widthDue(int lineNumber) {
        return lineNumber < firstLines ? firstWidth : restWidth;
    }

    private int badnessOf(int d, int spaces, boolean last) {
        if (d == 0 || d > 0 && last) {
            return 0;
        }
        long off = d > 0 ? d : -d;
        long give = spaces * (d > 0 ? spaceStretch : spaceShrink);
        if (d < 0 && give < off) {
            return OVERFULL;
        }
        if (give == 0) {
            return WORST_BADNESS;
        }
        long badness = 100 * off * off * off / (give * give * give);
        return badness > WORST_BADNESS ? WORST_BADNESS : (int) badness;
    }

    private static int classOf(int badness, int d) {
        if (badness <= 12) {
            return 1;
        }
        if (d < 0) {
            return 0;
        }
        return badness < 100 ? 2 : 3;
    }

    private static int stateOf(int b, int lineNumber, int lineClass) {
        return b * STATES_PER_BREAK + lineNumber * CLASSES + lineClass;
    }

    /** Takes the breaks of the feasible way with the least demerits and answers these, or -1 if there is none. */
    private long takeBestWay() {
        for (int state = 0; state < STATES; state++) {
            wayDemerits[state] = NONE;
        }
        int beginning = stateOf(0, 0, CLASS_BEFORE_FIRST);
        wayDemerits[beginning] = 0;
        for (int a = 0; a < breakCount - 1; a++) {
            for (int b = a + 1; b < breakCount; b++) {
                int natural = naturalWidth(a, b);
                int spaces = spacesIn(breakNext[a], breakEnd[b]);
                tryLine(a, b, natural, spaces);
            }
        }
        int end = bestEnd();
        if (end == NONE) {
            return NONE;
        }
        takeWayTo(end);
        return wayDemerits[end];
    }

    private void tryLine(int a, int b, int natural, int spaces) {
        for (int number = 0; number < LINE_NUMBERS; number++) {
            int d = widthDue(number) - natural;
            int badness = badnessOf(d, spaces, b == breakCount - 1);
            if (badness == OVERFULL || badness > badnessAllowed) {
                continue;
            }
            int lineClass = classOf(badness, d);
            int own = lineDemerits(badness, a, b);
            int numberBehind = number < MAX_FIRST_LINES ? number + 1 : number;
            int state = stateOf(b, numberBehind, lineClass);
            for (int classBefore = 0; classBefore < CLASSES; classBefore++) {
                int before = stateOf(a, number, classBefore);
                if (wayDemerits[before] == NONE) {
                    continue;
                }
                boolean jump = classBefore - lineClass > 1 || lineClass - classBefore > 1;
                offerWay(state, before, wayDemerits[before] + own + (jump ? CLASS_JUMP_DEMERITS : 0));
            }
        }
    }

    private int lineDemerits(int badness, int a, int b) {
        int sum = (10 + badness) * (10 + badness);
        if (breakHyphen[b]) {
            sum += hyphenCost * hyphenCost;
        }
        if (breakHyphen[a] && breakHyphen[b]) {
            sum += TWO_HYPHENS_DEMERITS;
        }
        return sum;
    }

    private void offerWay(int state, int before, long offered) {
        long known = wayDemerits[state];
        boolean better = known == NONE || offered < known;
        if (offered == known) {
            better = breaksLater(before, wayBefore[state]);
        }
        if (better) {
            wayDemerits[state] = offered;
            wayBefore[state] = before;
        }
    }

    /** Whether, going back from both states, the first breaks that differ lie later on the way to state. */
    private boolean breaksLater(int state, int other) {
        int here = state;
        int there = other;
        for (int step = 0; step < MAX_BREAKS && here != there; step++) {
            int breakHere = here / STATES_PER_BREAK;
            int breakThere = there / STATES_PER_BREAK;
            if (breakHere != breakThere) {
                return breakHere > breakThere;
            }
            here = wayBefore[here];
            there = wayBefore[there];
        }
        return false;
    }

    private int bestEnd() {
        int end = NONE;
        int from = (breakCount - 1) * STATES_PER_BREAK;
        for (int state = from; state < from + STATES_PER_BREAK; state++) {
            if (wayDemerits[state] == NONE) {
                continue;
            }
            if (end == NONE || wayDemerits[state] < wayDemerits[end]) {
                end = state;
            } else if (wayDemerits[state] == wayDemerits[end] && breaksLater(state, end)) {
                end = state;
            }
        }
        return end;
    }

    private void takeWayTo(int end) {
        int state = end;
        for (int step = 0; step < MAX_BREAKS && state >= STATES_PER_BREAK; step++) {
            breakTaken[state / STATES_PER_BREAK] = true;
            state = wayBefore[state];
        }
    }

    private void takeEmergencyWay() {
        int a = 0;
        for (int number = 0; number < MAX_BREAKS && a < breakCount - 1; number++) {
            a = emergencyEnd(a, number);
            breakTaken[a] = true;
        }
    }

    /** A line to a later break can be the narrower one (its hyphen falls away, its letters join), so all are tried. */
    private int emergencyEnd(int a, int number) {
        int end = a + 1;
        for (int b = a + 1; b < breakCount; b++) {
            int d = widthDue(number) - naturalWidth(a, b);
            int spaces = spacesIn(breakNext[a], breakEnd[b]);
            if (badnessOf(d, spaces, b == breakCount - 1) != OVERFULL) {
                end = b;
            }
        }
        return end;
    }

    private void addLines() {
        int a = 0;
        int number = 0;
        for (int b = 1; b < breakCount; b++) {
            if (breakTaken[b]) {
                addLine(a, b, number);
                number++;
                a = b;
            }
        }
    }

    private void addLine(int a, int b, int number) {
        if (lineCount >= MAX_TEXT) {
            return;
        }
        boolean last = b == breakCount - 1;
        int natural = naturalWidth(a, b);
        int spaces = spacesIn(breakNext[a], breakEnd[b]);
        int d = widthDue(number) - natural;
        int row = lineCount * LINE_FACTS;
        lineFacts[row + FACT_FROM] = breakNext[a];
        lineFacts[row + FACT_TO] = breakEnd[b];
        lineFacts[row + FACT_WIDTH] = natural;
        lineFacts[row + FACT_BADNESS] = badnessOf(d, spaces, last);
        lineFacts[row + FACT_HYPHEN] = breakHyphen[b] ? 1 : 0;
        lineFacts[row + FACT_PARAGRAPH] = paragraphCount;
        lineFacts[row + FACT_EXTRA] = extraOf(d, spaces, last);
        lineCount++;
    }

    private int extraOf(int d, int spaces, boolean last) {
        if (d > 0) {
            return last ? 0 : d;
        }
        int narrowest = -(spaces * spaceShrink);
        return d > narrowest ? d : narrowest;
    }

    private void fillPages() {
        int from = 0;
        for (int page = 0; page < MAX_TEXT && from < lineCount; page++) {
            int to = pageEnd(from);
            for (int k = from; k < to; k++) {
                lineFacts[k * LINE_FACTS + FACT_PAGE] = page;
            }
            from = to;
        }
    }

    private int pageEnd(int from) {
        if (from + pageHeight >= lineCount) {
            return lineCount;
        }
        for (int to = from + pageHeight; to > from; to--) {
            if (mayPageEndBefore(to)) {
                return to;
            }
        }
        return from + pageHeight;
    }

    /** Only inside a paragraph can the line before be its first or the line behind its last of two or more. */
    private boolean mayPageEndBefore(int k) {
        int paragraph = paragraphOf(k);
        if (paragraphOf(k - 1) != paragraph) {
            return true;
        }
        return paragraphOf(k - 2) == paragraph && paragraphOf(k + 1) == paragraph;
    }

    private int paragraphOf(int k) {
        return k < 0 || k >= lineCount ? NONE : lineFacts[k * LINE_FACTS + FACT_PARAGRAPH];
    }

    /** Shapes the line that has the letter at this place and answers its number, or -1 if there is no letter. */
    private int shapeLineAt(int place) {
        if (place < 0 || place >= length || text[place] >= LETTERS) {
            return NONE;
        }
        for (int k = 0; k < lineCount; k++) {
            int from = lineFacts[k * LINE_FACTS + FACT_FROM];
            int to = lineFacts[k * LINE_FACTS + FACT_TO];
            if (place >= from && place < to) {
                shape(from, to);
                return k;
            }
        }
        return NONE;
    }
}
