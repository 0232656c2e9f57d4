import java.util.ArrayList;
import java.util.HashMap;
import java.util.HashSet;
import java.util.List;
import java.util.Map;
import java.util.Set;
import java.util.TreeSet;

/** The document once more, cell by cell and without any of the program's short cuts, to compare it with. */
final class PlainModel {
    private record Line(int way, String sign, int number, int hours) { }

    private record Token(String text, int place) { }

    private record Moment(int cell, int watch, int line, int steered) { }

    private record Known(Set<Integer> set, int watch) { }

    private record Step(Known known, List<Integer> ways) { }

    private static final int NEVER = 1000000;

    private int w;
    private int h;
    private int hour;
    private int canoe;
    private int night;
    private int flight;
    private final Map<Integer, Integer> lands = new HashMap<>();
    private final Map<Integer, Integer> swells = new HashMap<>();
    private final int[] drifts = new int[6];
    private Set<Integer> reckoned = new TreeSet<>();
    private List<Line> lines = new ArrayList<>();
    private final List<Integer> tape = new ArrayList<>();
    private int fault = 0;
    private int faultPlace = -1;
    private final Map<Moment, int[]> sung = new HashMap<>();

    PlainModel() {
        sea(4, 4);
    }

    boolean sea(int width, int height) {
        if (width < 2 || width > 8 || height < 2 || height > 8) {
            return false;
        }
        w = width;
        h = height;
        lands.clear();
        swells.clear();
        night = 0;
        flight = 0;
        for (int watch = 0; watch < 6; watch++) {
            drifts[watch] = 16;
        }
        hour = 0;
        canoe = -1;
        reckoned = new TreeSet<>();
        for (int c = 0; c < w * h; c++) {
            reckoned.add(c);
        }
        sung.clear();
        return true;
    }

    private boolean isCell(int c) {
        return c >= 0 && c < w * h;
    }

    boolean land(int cell, int reach) {
        if (!isCell(cell) || reach < -1 || reach > 3) {
            return false;
        }
        lands.remove(cell);
        if (reach >= 0) {
            lands.put(cell, reach);
        }
        sung.clear();
        return true;
    }

    boolean swell(int cell, int v) {
        if (!isCell(cell) || v < 0 || v > 3) {
            return false;
        }
        swells.put(cell, v);
        sung.clear();
        return true;
    }

    boolean drifts(int watch, int set) {
        if (watch < 0 || watch > 5 || set < 1 || set > 511) {
            return false;
        }
        drifts[watch] = set;
        sung.clear();
        return true;
    }

    boolean watches(int n, int f) {
        if (n < 0 || n > 63 || f < 0 || f > 63) {
            return false;
        }
        night = n;
        flight = f;
        sung.clear();
        return true;
    }

    int look(int what) {
        int onLand = 0;
        for (int c : reckoned) {
            onLand += lands.containsKey(c) ? 1 : 0;
        }
        int[] first = {w, h, hour, reckoned.size(), onLand, canoe, lines.size(), night, flight};
        if (what >= 0 && what <= 8) {
            return first[what];
        }
        if (what >= 10 && what <= 15) {
            return drifts[what - 10];
        }
        if (what >= 100 && what < 100 + w * h) {
            return lands.getOrDefault(what - 100, -1);
        }
        if (what >= 200 && what < 200 + w * h) {
            return swells.getOrDefault(what - 200, 0);
        }
        return -2;
    }

    long reckoned() {
        long sum = 0;
        for (int c : reckoned) {
            sum += 1L << c;
        }
        return sum;
    }

    boolean begin(long set) {
        Set<Integer> cells = new TreeSet<>();
        for (int c = 0; c < 64; c++) {
            if ((set >> c & 1) == 1) {
                if (!isCell(c)) {
                    return false;
                }
                cells.add(c);
            }
        }
        if (cells.isEmpty()) {
            return false;
        }
        reckoned = cells;
        hour = 0;
        canoe = -1;
        return true;
    }

    boolean put(int cell) {
        if (!reckoned.contains(cell)) {
            return false;
        }
        canoe = cell;
        return true;
    }

    private int gone(int cell, int way, int drift) {
        if (lands.containsKey(cell)) {
            return cell;
        }
        int x = cell % w + (way % 3 - 1) + (drift % 3 - 1);
        int y = cell / w + (way / 3 - 1) + (drift / 3 - 1);
        x = x < 0 ? 0 : x > w - 1 ? w - 1 : x;
        y = y < 0 ? 0 : y > h - 1 ? h - 1 : y;
        return w * y + x;
    }

    private Set<Integer> goneAll(Set<Integer> from, int way, int watch) {
        Set<Integer> to = new TreeSet<>();
        for (int c : from) {
            for (int d = 0; d < 9; d++) {
                if ((drifts[watch] >> d & 1) == 1) {
                    to.add(gone(c, way, d));
                }
            }
        }
        return to;
    }

    int steer(int way, int drift) {
        if (way < 0 || way > 8 || drift < 0 || drift > 8 || (drifts[hour % 6] >> drift & 1) == 0 || hour == 9999) {
            return -1;
        }
        reckoned = goneAll(reckoned, way, hour % 6);
        if (canoe >= 0) {
            canoe = gone(canoe, way, drift);
        }
        hour++;
        return reckoned.size();
    }

    int sign(int cell, int watch, int what) {
        if (!isCell(cell) || watch < 0 || watch > 5 || what < 0 || what > 2) {
            return -2;
        }
        if (what == 0) {
            return swells.getOrDefault(cell, 0);
        }
        if (what == 1) {
            return (night >> watch & 1) == 1 ? cell / w / 2 : -1;
        }
        if ((flight >> watch & 1) == 0) {
            return 0;
        }
        for (Map.Entry<Integer, Integer> land : lands.entrySet()) {
            int dx = Math.abs(land.getKey() % w - cell % w);
            int dy = Math.abs(land.getKey() / w - cell / w);
            if (Math.max(dx, dy) <= land.getValue()) {
                return 1;
            }
        }
        return 0;
    }

    int see(int what, int v) {
        if (what < 0 || what > 2) {
            return -1;
        }
        Set<Integer> left = new TreeSet<>();
        for (int c : reckoned) {
            if (sign(c, hour % 6, what) == v) {
                left.add(c);
            }
        }
        if (left.isEmpty() || canoe >= 0 && !left.contains(canoe)) {
            return -1;
        }
        reckoned = left;
        return left.size();
    }

    int sights() {
        if (canoe < 0) {
            return -1;
        }
        for (int what = 0; what < 3; what++) {
            see(what, sign(canoe, hour % 6, what));
        }
        return reckoned.size();
    }

    int feed(int... words) {
        if (tape.size() + 20 > 400) {
            return -1;
        }
        for (int word : words) {
            tape.add(word >> 24 & 255);
            tape.add(word >> 16 & 255);
            tape.add(word >> 8 & 255);
            tape.add(word & 255);
        }
        return tape.size();
    }

    int end(int n) {
        if (n < 0 || n > tape.size()) {
            return -1;
        }
        tape.subList(n, tape.size()).clear();
        return n;
    }

    private static int kindOf(int c) {
        if (c == 32 || c == 10) {
            return 0;
        }
        if (c >= 'a' && c <= 'z' || c >= 'A' && c <= 'Z') {
            return 1;
        }
        return c >= '0' && c <= '9' ? 2 : 3;
    }

    private List<Token> tokens() {
        List<Token> found = new ArrayList<>();
        int at = 0;
        while (at < tape.size()) {
            int kind = kindOf(tape.get(at));
            int start = at;
            StringBuilder text = new StringBuilder();
            do {
                text.append((char) (int) tape.get(at));
                at++;
            } while (at < tape.size() && kind != 3 && kindOf(tape.get(at)) == kind);
            if (kind != 0) {
                found.add(new Token(text.toString(), start));
            }
        }
        found.add(new Token("", tape.size()));
        return found;
    }

    int chant() {
        List<Token> tokens = tokens();
        tape.clear();
        List<Line> read = new ArrayList<>();
        int[] wrong = parse(tokens, read);
        fault = wrong[0];
        faultPlace = wrong[1];
        if (fault != 0) {
            return -1;
        }
        lines = read;
        sung.clear();
        return lines.size();
    }

    /** The fault and its place: a line is read by the patterns of its tokens, each against what may follow. */
    private static int[] parse(List<Token> tokens, List<Line> read) {
        String state = "start";
        int way = 0;
        String sign = "";
        int number = 0;
        int hours = 0;
        for (Token t : tokens) {
            String s = t.text();
            boolean isNumber = s.matches("[0-9]{1,2}");
            int value = isNumber ? Integer.parseInt(s) : -1;
            if (state.equals("start") && s.isEmpty()) {
                return new int[] {0, -1};
            } else if (state.equals("start") && s.equals("steer")) {
                if (read.size() == 12) {
                    return new int[] {3, t.place()};
                }
                sign = "";
                state = "way";
            } else if (state.equals("way") && isNumber) {
                if (value > 8) {
                    return new int[] {2, t.place()};
                }
                way = value;
                state = "until or for";
            } else if (state.equals("until or for") && s.equals("until")) {
                state = "sign";
            } else if (state.equals("sign") && s.equals("birds")) {
                sign = s;
                state = "for";
            } else if (state.equals("sign") && (s.equals("swell") || s.equals("star"))) {
                sign = s;
                state = "number";
            } else if (state.equals("number") && isNumber) {
                if (value > 3) {
                    return new int[] {2, t.place()};
                }
                number = value;
                state = "for";
            } else if (state.endsWith("for") && s.equals("for")) {
                state = "hours";
            } else if (state.equals("hours") && isNumber) {
                if (value < 1 || value > 20) {
                    return new int[] {2, t.place()};
                }
                hours = value;
                state = ";";
            } else if (state.equals(";") && s.equals(";")) {
                read.add(new Line(way, sign, number, hours));
                state = "start";
            } else {
                return new int[] {1, t.place()};
            }
        }
        throw new IllegalStateException("the end is always told");
    }

    int fault(int what) {
        return what == 0 ? fault : what == 1 ? faultPlace : -1;
    }

    private boolean signThere(Line line, int cell, int watch) {
        switch (line.sign()) {
            case "birds": return sign(cell, watch, 2) == 1;
            case "swell": return sign(cell, watch, 0) == line.number();
            case "star": return sign(cell, watch, 1) == line.number();
            default: return false;
        }
    }

    /** The most and the fewest hours; NEVER if it may not land, or can't. */
    private int[] sing(Moment m) {
        if (lands.containsKey(m.cell())) {
            return new int[] {0, 0};
        }
        if (m.line() >= lines.size()) {
            return new int[] {NEVER, NEVER};
        }
        int[] known = sung.get(m);
        if (known != null) {
            return known;
        }
        Line line = lines.get(m.line());
        int[] result;
        if (signThere(line, m.cell(), m.watch()) || m.steered() == line.hours()) {
            result = sing(new Moment(m.cell(), m.watch(), m.line() + 1, 0));
        } else {
            result = new int[] {0, NEVER};
            for (int d = 0; d < 9; d++) {
                if ((drifts[m.watch()] >> d & 1) == 1) {
                    int to = gone(m.cell(), line.way(), d);
                    int[] r = sing(new Moment(to, (m.watch() + 1) % 6, m.line(), m.steered() + 1));
                    result[0] = Math.max(result[0], r[0] >= NEVER ? NEVER : r[0] + 1);
                    result[1] = Math.min(result[1], r[1] >= NEVER ? NEVER : r[1] + 1);
                }
            }
        }
        sung.put(m, result);
        return result;
    }

    int sure(int what) {
        if (what < 0 || what > 2) {
            return -2;
        }
        int most = 0;
        int fewest = NEVER;
        int unsure = 0;
        for (int c : reckoned) {
            int[] r = sing(new Moment(c, hour % 6, 0, 0));
            most = Math.max(most, r[0]);
            fewest = Math.min(fewest, r[1]);
            unsure += r[0] >= NEVER ? 1 : 0;
        }
        return what == 2 ? unsure : what == 0 ? (unsure > 0 ? -1 : most) : fewest >= NEVER ? -1 : fewest;
    }

    int from(int cell) {
        if (!isCell(cell)) {
            return -2;
        }
        int most = sing(new Moment(cell, hour % 6, 0, 0))[0];
        return most >= NEVER ? -1 : most;
    }

    int sings(int line) {
        if (canoe < 0 || line < 0 || line >= lines.size()) {
            return -1;
        }
        if (lands.containsKey(canoe)) {
            return 9;
        }
        int at = line;
        while (at < lines.size() && signThere(lines.get(at), canoe, hour % 6)) {
            at++;
        }
        return at < lines.size() ? lines.get(at).way() : 10;
    }

    /** The ways of the best row; null if there is none; a row of one -2 if the search was spent. */
    private List<Integer> best() {
        if (lands.keySet().containsAll(reckoned)) {
            return List.of();
        }
        Set<Known> seen = new HashSet<>();
        List<Step> queue = new ArrayList<>();
        queue.add(new Step(new Known(reckoned, hour % 6), List.of()));
        seen.add(queue.get(0).known());
        for (int at = 0; at < queue.size(); at++) {
            Step step = queue.get(at);
            for (int way = 0; way < 9; way++) {
                Set<Integer> to = goneAll(step.known().set(), way, step.known().watch());
                List<Integer> ways = new ArrayList<>(step.ways());
                ways.add(way);
                if (lands.keySet().containsAll(to)) {
                    return ways;
                }
                Known known = new Known(to, (step.known().watch() + 1) % 6);
                if (ways.size() < 12 && seen.add(known)) {
                    if (seen.size() > 3000) {
                        return List.of(-2);
                    }
                    queue.add(new Step(known, ways));
                }
            }
        }
        return null;
    }

    int blind(int what) {
        if (what != 0 && (what < 10 || what > 21)) {
            return -2;
        }
        List<Integer> row = best();
        if (row == null) {
            return -1;
        }
        if (row.equals(List.of(-2))) {
            return -2;
        }
        return what == 0 ? row.size() : what - 10 < row.size() ? row.get(what - 10) : -2;
    }
}
