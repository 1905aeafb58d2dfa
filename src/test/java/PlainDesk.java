import java.util.ArrayList;
import java.util.HashMap;
import java.util.List;
import java.util.Map;

/** The document's words again, as plainly as they can be coded: every way to break a paragraph is tried. */
final class PlainDesk {
    static final int MOST_TRIES = 20000;

    record Break(int end, int next, boolean hyphen) {
    }

    record Line(int from, int to, boolean hyphen, boolean last, int due, int paragraph) {
    }

    record Way(List<Break> breaks, long demerits) {
    }

    final List<Integer> text = new ArrayList<>();
    final int[] widths = {10, 10, 10, 10, 10, 10, 10, 10, 10, 10};
    final Map<List<Integer>, Integer> ligatures = new HashMap<>();
    final Map<List<Integer>, Integer> kerns = new HashMap<>();
    final Map<List<Integer>, String> patterns = new HashMap<>();
    int first = 100;
    int rest = 100;
    int n = 0;
    int wide = 6;
    int stretch = 3;
    int shrink = 2;
    int tolerance = 200;
    int cost = 50;
    int height = 6;

    Way best = null;
    int tries = 0;
    List<Line> lines = new ArrayList<>();
    List<Long> demerits = new ArrayList<>();

    int put(int... codes) {
        for (int code : codes) {
            if (code >= 0 && code <= 11 && text.size() < 48) {
                text.add(code);
            }
        }
        return text.size();
    }

    int wipe() {
        int was = text.size();
        text.clear();
        return was;
    }

    boolean width(int l, int w) {
        boolean right = l >= 0 && l <= 9 && w >= 6 && w <= 30;
        if (right) {
            widths[l] = w;
        }
        return right;
    }

    boolean ligature(int x, int y, int z) {
        List<Integer> pair = List.of(x, y);
        int others = ligatures.size() - (ligatures.containsKey(pair) ? 1 : 0);
        if (x < 0 || x > 9 || y < 0 || y > 9 || z < -1 || z > 9 || others == 8) {
            return false;
        }
        ligatures.remove(pair);
        if (z != -1) {
            ligatures.put(pair, z);
        }
        return true;
    }

    boolean kern(int x, int y, int k) {
        boolean right = x >= 0 && x <= 9 && y >= 0 && y <= 9 && k >= -5 && k <= 5;
        if (right) {
            kerns.put(List.of(x, y), k);
        }
        return right;
    }

    boolean pattern(int a, int b, int c, int digits) {
        if (a < 0 || a > 10 || b < -1 || b > 10 || c < -1 || c > 10 || c != -1 && b == -1 || digits < 0) {
            return false;
        }
        List<Integer> letters = b == -1 ? List.of(a) : c == -1 ? List.of(a, b) : List.of(a, b, c);
        boolean onlyTens = true;
        for (int i = 0; i < letters.size(); i++) {
            onlyTens &= letters.get(i) == 10;
            if (letters.get(i) == 10 && i > 0 && i < letters.size() - 1) {
                return false;
            }
        }
        StringBuilder row = new StringBuilder(Integer.toString(digits));
        while (row.length() < letters.size() + 1) {
            row.insert(0, '0');
        }
        int others = patterns.size() - (patterns.containsKey(letters) ? 1 : 0);
        if (onlyTens || row.length() > letters.size() + 1 || others == 10) {
            return false;
        }
        patterns.remove(letters);
        if (digits != 0) {
            patterns.put(letters, row.toString());
        }
        return true;
    }

    boolean measure(int first, int rest, int n) {
        if (first < 20 || first > 300 || rest < 20 || rest > 300 || n < 0 || n > 3) {
            return false;
        }
        this.first = first;
        this.rest = rest;
        this.n = n;
        return true;
    }

    boolean glue(int wide, int stretch, int shrink) {
        if (wide < 1 || wide > 20 || stretch < 0 || stretch > 20 || shrink < 0 || shrink > wide) {
            return false;
        }
        this.wide = wide;
        this.stretch = stretch;
        this.shrink = shrink;
        return true;
    }

    boolean rules(int tolerance, int cost, int height) {
        if (tolerance < 0 || tolerance > 10000 || cost < 0 || cost > 200 || height < 1 || height > 12) {
            return false;
        }
        this.tolerance = tolerance;
        this.cost = cost;
        this.height = height;
        return true;
    }

    boolean isLetter(int i) {
        return i >= 0 && i < text.size() && text.get(i) <= 9;
    }

    /** The glyphs of a part of a word, each with the number of its letters behind it. */
    List<int[]> shaped(int from, int to) {
        List<int[]> row = new ArrayList<>();
        for (int code : text.subList(from, to)) {
            row.add(new int[] {code, 1});
        }
        int work = 0;
        while (work + 1 < row.size()) {
            Integer joined = ligatures.get(List.of(row.get(work)[0], row.get(work + 1)[0]));
            if (joined == null) {
                work++;
            } else {
                int letters = row.get(work)[1] + row.get(work + 1)[1];
                row.set(work, new int[] {joined, letters});
                row.remove(work + 1);
            }
        }
        return row;
    }

    int kernOf(List<int[]> row, int g) {
        return g == 0 ? 0 : kerns.getOrDefault(List.of(row.get(g - 1)[0], row.get(g)[0]), 0);
    }

    int partWidth(int from, int to) {
        List<int[]> row = shaped(from, to);
        int sum = 0;
        for (int g = 0; g < row.size(); g++) {
            sum += widths[row.get(g)[0]] + kernOf(row, g);
        }
        return sum;
    }

    int span(int from, int to) {
        if (from < 0 || to > text.size() || from >= to) {
            return -1;
        }
        for (int i = from; i < to; i++) {
            if (!isLetter(i)) {
                return -1;
            }
        }
        return partWidth(from, to);
    }

    boolean hyphen(int place) {
        if (!isLetter(place)) {
            return false;
        }
        int from = place;
        while (isLetter(from - 1)) {
            from--;
        }
        int to = place;
        while (isLetter(to)) {
            to++;
        }
        List<Integer> framed = new ArrayList<>(List.of(10));
        framed.addAll(text.subList(from, to));
        framed.add(10);
        int[] digits = new int[framed.size() + 1];
        for (Map.Entry<List<Integer>, String> pattern : patterns.entrySet()) {
            int size = pattern.getKey().size();
            for (int at = 0; at + size <= framed.size(); at++) {
                if (framed.subList(at, at + size).equals(pattern.getKey())) {
                    for (int k = 0; k <= size; k++) {
                        digits[at + k] = Math.max(digits[at + k], pattern.getValue().charAt(k) - '0');
                    }
                }
            }
        }
        return place - from >= 2 && to - place >= 2 && digits[place - from + 1] % 2 == 1;
    }

    /** The parts of the words between two places. */
    List<int[]> parts(int from, int to) {
        List<int[]> all = new ArrayList<>();
        for (int i = from; i < to; i++) {
            if (isLetter(i) && (i == from || !isLetter(i - 1))) {
                int end = i;
                while (end < to && isLetter(end)) {
                    end++;
                }
                all.add(new int[] {i, end});
            }
        }
        return all;
    }

    int natural(Line line) {
        List<int[]> parts = parts(line.from, line.to);
        int sum = (parts.size() - 1) * wide + (line.hyphen ? 5 : 0);
        for (int[] part : parts) {
            sum += partWidth(part[0], part[1]);
        }
        return sum;
    }

    int spaces(Line line) {
        return parts(line.from, line.to).size() - 1;
    }

    int badness(Line line) {
        long d = line.due - natural(line);
        long g = spaces(line);
        if (d == 0) {
            return 0;
        }
        if (d > 0) {
            if (line.last) {
                return 0;
            }
            long give = g * stretch;
            return give == 0 ? 10000 : (int) Math.min(10000, 100 * d * d * d / (give * give * give));
        }
        long give = g * shrink;
        return give < -d ? -1 : (int) (100 * -d * -d * -d / (give * give * give));
    }

    int lineClass(Line line) {
        int badness = badness(line);
        if (badness <= 12) {
            return 1;
        }
        if (line.due < natural(line)) {
            return 0;
        }
        return badness < 100 ? 2 : 3;
    }

    List<Break> breaks(int from, int to) {
        List<int[]> words = parts(from, to);
        List<Break> all = new ArrayList<>();
        for (int w = 0; w < words.size(); w++) {
            for (int i = words.get(w)[0]; i < words.get(w)[1]; i++) {
                if (hyphen(i)) {
                    all.add(new Break(i, i, true));
                }
            }
            boolean lastWord = w == words.size() - 1;
            all.add(new Break(words.get(w)[1], lastWord ? to : words.get(w + 1)[0], false));
        }
        return all;
    }

    List<Line> linesOf(int from, List<Break> way, Break end, int paragraph) {
        List<Line> row = new ArrayList<>();
        int at = from;
        for (Break b : way) {
            row.add(new Line(at, b.end, b.hyphen, b == end, row.size() < n ? first : rest, paragraph));
            at = b.next;
        }
        return row;
    }

    /** The demerits of a way, or -1 if it is not feasible. */
    long demeritsOf(List<Line> way) {
        long sum = 0;
        for (int k = 0; k < way.size(); k++) {
            Line line = way.get(k);
            int badness = badness(line);
            if (badness == -1 || badness > tolerance) {
                return -1;
            }
            sum += (10L + badness) * (10L + badness);
            sum += line.hyphen ? (long) cost * cost : 0;
            sum += line.hyphen && k > 0 && way.get(k - 1).hyphen ? 3000 : 0;
            int before = k == 0 ? 1 : lineClass(way.get(k - 1));
            sum += Math.abs(lineClass(line) - before) > 1 ? 2000 : 0;
        }
        return sum;
    }

    boolean later(List<Break> way, List<Break> other) {
        for (int back = 1; back <= Math.max(way.size(), other.size()); back++) {
            int here = back > way.size() ? -1 : way.get(way.size() - back).end;
            int there = back > other.size() ? -1 : other.get(other.size() - back).end;
            if (here != there) {
                return here > there;
            }
        }
        return false;
    }

    Way bestWay(int from, List<Break> all, int paragraph) {
        best = null;
        tryWays(from, all, new ArrayList<>(), 0, paragraph);
        return best;
    }

    /** Every way that begins with these breaks, but for those that no further line could make the best. */
    void tryWays(int from, List<Break> all, List<Break> way, int done, int paragraph) {
        Break end = all.get(all.size() - 1);
        long sum = demeritsOf(linesOf(from, way, end, paragraph));
        tries++;
        if (sum == -1 || best != null && sum > best.demerits || tries > MOST_TRIES) {
            return;
        }
        if (done == all.size()) {
            if (best == null || sum < best.demerits || later(way, best.breaks)) {
                best = new Way(List.copyOf(way), sum);
            }
            return;
        }
        for (int b = done; b < all.size(); b++) {
            way.add(all.get(b));
            tryWays(from, all, way, b + 1, paragraph);
            way.remove(way.size() - 1);
        }
    }

    List<Break> emergency(int from, List<Break> all) {
        Break end = all.get(all.size() - 1);
        List<Break> way = new ArrayList<>();
        int at = from;
        int done = 0;
        while (done < all.size()) {
            int taken = done;
            for (int b = done; b < all.size(); b++) {
                Break to = all.get(b);
                if (badness(new Line(at, to.end, to.hyphen, to == end, way.size() < n ? first : rest, 0)) != -1) {
                    taken = b;
                }
            }
            way.add(all.get(taken));
            at = all.get(taken).next;
            done = taken + 1;
        }
        return way;
    }

    /** Sets all lines; false if there are too many ways to try every one. */
    boolean set() {
        tries = 0;
        lines = new ArrayList<>();
        demerits = new ArrayList<>();
        int from = 0;
        for (int i = 0; i <= text.size(); i++) {
            if (i == text.size() || text.get(i) == 11) {
                List<Break> all = breaks(from, i);
                if (!all.isEmpty()) {
                    setParagraph(parts(from, i).get(0)[0], all);
                }
                from = i + 1;
            }
        }
        return tries <= MOST_TRIES;
    }

    void setParagraph(int from, List<Break> all) {
        Way best = bestWay(from, all, demerits.size());
        List<Break> way = best == null ? emergency(from, all) : best.breaks;
        lines.addAll(linesOf(from, way, all.get(all.size() - 1), demerits.size()));
        demerits.add(best == null ? -1 : best.demerits);
    }

    int sizeOf(int paragraph) {
        return (int) lines.stream().filter(line -> line.paragraph == paragraph).count();
    }

    boolean mayEnd(int to) {
        if (to == lines.size()) {
            return true;
        }
        Line behind = lines.get(to);
        Line on = lines.get(to - 1);
        boolean first = to < 2 || lines.get(to - 2).paragraph != on.paragraph;
        return !(behind.last && sizeOf(behind.paragraph) > 1) && !(first && sizeOf(on.paragraph) > 1);
    }

    int page(int k) {
        int from = 0;
        for (int page = 0;; page++) {
            int taken = 0;
            for (int m = 1; m <= height && from + m <= lines.size(); m++) {
                taken = mayEnd(from + m) ? m : taken;
            }
            from += taken == 0 ? height : taken;
            if (k < from) {
                return page;
            }
        }
    }

    int line(int k, int what) {
        if (k < 0 || k >= lines.size() || what < 0 || what > 6) {
            return -1;
        }
        Line line = lines.get(k);
        return switch (what) {
            case 0 -> line.from;
            case 1 -> line.to;
            case 2 -> natural(line);
            case 3 -> badness(line);
            case 4 -> line.hyphen ? 1 : 0;
            case 5 -> line.paragraph;
            default -> page(k);
        };
    }

    /** The glyph at a place and where it begins, or two times -1. */
    int[] glyphAndPosition(int place) {
        for (Line line : lines) {
            if (!isLetter(place) || place < line.from || place >= line.to) {
                continue;
            }
            int g = spaces(line);
            int d = line.due - natural(line);
            int e = d > 0 ? (line.last ? 0 : d) : Math.max(d, -(g * shrink));
            int x = 0;
            int j = 0;
            for (int[] part : parts(line.from, line.to)) {
                if (part[0] != line.from) {
                    x += wide + e * (j + 1) / g - e * j / g;
                    j++;
                }
                List<int[]> row = shaped(part[0], part[1]);
                int at = part[0];
                for (int k = 0; k < row.size(); k++) {
                    x += kernOf(row, k);
                    if (place >= at && place < at + row.get(k)[1]) {
                        return new int[] {row.get(k)[0], x};
                    }
                    at += row.get(k)[1];
                    x += widths[row.get(k)[0]];
                }
            }
        }
        return new int[] {-1, -1};
    }

    long demerits(int p) {
        return p < 0 || p >= demerits.size() ? -2 : demerits.get(p);
    }
}
