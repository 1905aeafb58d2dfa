/** Many runs of at most 512 calls, each answer compared with the one of PlainDesk; the same runs every time. */
public final class AgainstPlainDeskTest {
    private static final Due DUE = new Due("AgainstPlainDeskTest");
    private static long seed = 20261115;

    private static int below(int bound) {
        seed = seed * 6364136223846793005L + 1442695040888963407L;
        return (int) ((seed >>> 33) % bound);
    }

    private static int from(int least, int greatest) {
        return least + below(greatest - least + 1);
    }

    private static int code(int letters, int spaces) {
        int roll = below(100);
        return roll < spaces ? 10 : roll < spaces + 4 ? 11 : roll == 99 ? from(-2, 13) : below(letters);
    }

    private static void change(GalleyDesk desk, PlainDesk plain, int letters) {
        int x = from(-1, letters);
        int y = below(letters);
        int z = from(-1, 9);
        switch (below(9)) {
            case 0 -> {
                int w = from(5, 31);
                DUE.is("width", desk.width(x, w) ? 1 : 0, plain.width(x, w) ? 1 : 0);
            }
            case 1 -> DUE.is("ligature", desk.ligature(x, y, z) ? 1 : 0, plain.ligature(x, y, z) ? 1 : 0);
            case 2 -> {
                int k = from(-6, 6);
                DUE.is("kern", desk.kern(x, y, k) ? 1 : 0, plain.kern(x, y, k) ? 1 : 0);
            }
            case 3, 4 -> {
                int a = below(6) == 0 ? 10 : below(letters);
                int b = below(3) == 0 ? -1 : below(8) == 0 ? 10 : below(letters);
                int c = below(2) == 0 ? -1 : below(6) == 0 ? 10 : below(letters);
                int most = b == -1 ? 99 : c == -1 ? 999 : 9999;
                int digits = below(8) == 0 ? 0 : from(-1, most + most / 50);
                boolean got = desk.pattern(a, b, c, digits);
                DUE.is("pattern " + a + " " + b + " " + c + " " + digits, got ? 1 : 0,
                    plain.pattern(a, b, c, digits) ? 1 : 0);
            }
            case 5, 6 -> {
                int first = from(18, 160);
                int rest = below(3) == 0 ? first : from(18, 160);
                int n = from(-1, 4);
                DUE.is("measure", desk.measure(first, rest, n) ? 1 : 0, plain.measure(first, rest, n) ? 1 : 0);
            }
            case 7 -> {
                int wide = from(0, 21);
                int stretch = from(-1, 21);
                int shrink = from(-1, wide + 1);
                DUE.is("glue", desk.glue(wide, stretch, shrink) ? 1 : 0, plain.glue(wide, stretch, shrink) ? 1 : 0);
            }
            default -> {
                int tolerance = below(2) == 0 ? 10000 : from(-1, 300);
                int cost = from(-1, 201);
                int height = from(0, 8);
                DUE.is("rules", desk.rules(tolerance, cost, height) ? 1 : 0,
                    plain.rules(tolerance, cost, height) ? 1 : 0);
            }
        }
    }

    /** All questions once: with 48 codes on 24 lines some 400 calls. */
    private static void ask(GalleyDesk desk, PlainDesk plain, String run) {
        for (int i = -1; i <= plain.text.size() + 1; i++) {
            DUE.is(run + "hyphen(" + i + ")", desk.hyphen(i) ? 1 : 0, plain.hyphen(i) ? 1 : 0);
            int to = i + from(-1, 6);
            DUE.is(run + "span(" + i + ", " + to + ")", desk.span(i, to), plain.span(i, to));
        }
        askOfLines(desk, plain, run);
    }

    private static void askOfLines(GalleyDesk desk, PlainDesk plain, String run) {
        if (!plain.set()) {
            return;
        }
        DUE.is(run + "lines()", desk.lines(), plain.lines.size());
        for (int k = 0; k < plain.lines.size(); k++) {
            for (int what = 0; what <= 6; what++) {
                DUE.is(run + "line(" + k + ", " + what + ")", desk.line(k, what), plain.line(k, what));
            }
        }
        for (int p = -1; p <= plain.demerits.size(); p++) {
            DUE.is(run + "demerits(" + p + ")", desk.demerits(p), plain.demerits(p));
        }
        for (int i = -1; i <= plain.text.size(); i++) {
            int[] want = plain.glyphAndPosition(i);
            DUE.is(run + "glyph(" + i + ")", desk.glyph(i), want[0]);
            DUE.is(run + "position(" + i + ")", desk.position(i), want[1]);
        }
    }

    /** Four questions, any of which has the lines set before the next changes. */
    private static void askSome(GalleyDesk desk, PlainDesk plain, String run) {
        if (!plain.set()) {
            return;
        }
        int k = from(-1, plain.lines.size());
        int what = from(-1, 7);
        DUE.is(run + "line(" + k + ", " + what + ")", desk.line(k, what), plain.line(k, what));
        int p = from(-1, plain.demerits.size());
        DUE.is(run + "demerits(" + p + ")", desk.demerits(p), plain.demerits(p));
        int i = from(-1, plain.text.size());
        int[] want = plain.glyphAndPosition(i);
        DUE.is(run + "glyph(" + i + ")", desk.glyph(i), want[0]);
        DUE.is(run + "position(" + i + ")", desk.position(i), want[1]);
    }

    private static void put(GalleyDesk desk, PlainDesk plain, int codes, int letters, int spaces) {
        for (int i = 0; i < codes; i += 4) {
            int a = code(letters, spaces);
            int b = code(letters, spaces);
            int c = code(letters, spaces);
            int d = code(letters, spaces);
            DUE.is("put(" + a + ", " + b + ", " + c + ", " + d + ")", desk.put(a, b, c, d), plain.put(a, b, c, d));
        }
    }

    private static void run(int number) {
        GalleyDesk desk = new GalleyDesk();
        PlainDesk plain = new PlainDesk();
        int letters = below(2) == 0 ? from(1, 3) : 10;
        int spaces = from(8, 40);
        int rounds = from(1, 4);
        put(desk, plain, from(4, 50), letters, spaces);
        for (int round = 0; round < rounds; round++) {
            int changes = from(0, 12);
            for (int i = 0; i < changes; i++) {
                change(desk, plain, letters);
            }
            askSome(desk, plain, "run " + number + ", round " + round + ": ");
            if (below(8) == 0) {
                DUE.is("wipe()", desk.wipe(), plain.wipe());
                put(desk, plain, from(4, 50), letters, spaces);
            }
        }
        ask(desk, plain, "run " + number + ": ");
    }

    /** With all widths multiples of 10 and lines that miss by as much on either side, many ways cost the same. */
    private static void runWithTies(int number) {
        GalleyDesk desk = new GalleyDesk();
        PlainDesk plain = new PlainDesk();
        int words = from(4, 10);
        for (int i = 0; i < words; i++) {
            int letters = from(1, 4);
            for (int at = letters; at > 0; at--) {
                int behind = at == 1 ? 10 : -1;
                DUE.is("put", desk.put(at % 2, behind, -1, -1), plain.put(at % 2, behind, -1, -1));
            }
        }
        int give = from(1, 4) * 5;
        int wide = give > 10 ? 20 : 10;
        desk.glue(wide, give, give);
        plain.glue(wide, give, give);
        int first = from(5, 12) * 10;
        int rest = from(5, 12) * 10;
        int n = below(4);
        desk.measure(first, rest, n);
        plain.measure(first, rest, n);
        int cost = from(0, 2) * 10;
        desk.rules(10000, cost, 6);
        plain.rules(10000, cost, 6);
        if (below(3) == 0) {
            desk.pattern(0, 1, -1, 10);
            plain.pattern(0, 1, -1, 10);
        }
        ask(desk, plain, "run " + number + " with ties: ");
    }

    /** A full text with a break at most letters; words aren't asked for, since 48 lines alone take 480 calls. */
    private static void runWithManyBreaks(int number) {
        GalleyDesk desk = new GalleyDesk();
        PlainDesk plain = new PlainDesk();
        int spaces = below(3) == 0 ? 0 : from(0, 50);
        int ends = below(2) == 0 ? 0 : from(1, 8);
        int[] codes = new int[48];
        for (int i = 0; i < 48; i++) {
            int roll = below(100);
            codes[i] = roll < spaces ? 10 : roll < spaces + ends ? 11 : below(4);
        }
        for (int i = 0; i < 48; i += 4) {
            desk.put(codes[i], codes[i + 1], codes[i + 2], codes[i + 3]);
            plain.put(codes[i], codes[i + 1], codes[i + 2], codes[i + 3]);
        }
        int patterns = from(1, 6);
        for (int i = 0; i < patterns; i++) {
            int letter = below(4);
            int digits = from(0, 4) * 10 + from(0, 3);
            desk.pattern(letter, -1, -1, digits);
            plain.pattern(letter, -1, -1, digits);
        }
        for (int letter = 0; letter < 4; letter++) {
            int w = from(6, 16);
            desk.width(letter, w);
            plain.width(letter, w);
        }
        int wide = from(1, 20);
        int stretch = from(0, 20);
        int shrink = from(0, wide);
        desk.glue(wide, stretch, shrink);
        plain.glue(wide, stretch, shrink);
        int first = below(4) == 0 ? from(20, 300) : from(20, 80);
        int rest = below(4) == 0 ? from(20, 300) : from(20, 80);
        int n = below(4);
        desk.measure(first, rest, n);
        plain.measure(first, rest, n);
        int tolerance = below(4) == 0 ? from(0, 10000) : 10000;
        int cost = from(0, 200);
        int height = from(1, 12);
        desk.rules(tolerance, cost, height);
        plain.rules(tolerance, cost, height);
        askOfLines(desk, plain, "run " + number + " with many breaks: ");
    }

    public static void main(String[] args) {
        for (int number = 0; number < 3000; number++) {
            run(number);
        }
        for (int number = 0; number < 3000; number++) {
            runWithTies(number);
        }
        for (int number = 0; number < 500; number++) {
            runWithManyBreaks(number);
        }
        DUE.end();
    }
}
