import java.util.Arrays;

/** Canoes by stars: what is reckoned, the chants that are judged on it, and the blind rows that land it. */
public final class CanoeMaster {
    public static final int NONE = -1;

    private static final int NO_SUCH = NONE - 1;

    private static final int LEAST_SIDE = 2;
    private static final int MOST_SIDE = 8;
    private static final int FIRST_SIDE = 4;
    private static final int MOST_CELLS = MOST_SIDE * MOST_SIDE;
    private static final int MOST_REACH = 3;
    private static final int MOST_SWELL = 3;
    private static final int WAY_COUNT = 9;
    private static final int STILL = 4;
    private static final int WATCH_COUNT = 6;
    private static final int LAST_HOUR = 9999;

    private static final int SWELL = 0;
    private static final int STAR = 1;
    private static final int BIRDS = 2;

    private static final int ON_LAND = 9;
    private static final int OVER = 10;

    private static final int MOST_BYTES = 400;
    private static final int BYTES_A_FEED = 20;
    private static final int MOST_LINES = 12;
    private static final int MOST_LINE_HOURS = 20;
    private static final int MOST_SIGN_NUMBER = 3;

    private static final int MOST_BLIND_HOURS = 12;
    private static final int MOST_SETS = 3000;

    private final Sea waters = new Sea();
    private final Reader reader = new Reader();
    private Chant sung = new Chant();
    private Chant draft = new Chant();
    private long within;
    private int hour;
    private int canoe;
    /** These two have long rows, so an object that never asks them goes without. */
    private Judge judge = null;
    private Search search = null;

    public CanoeMaster() {
        waters.lay(FIRST_SIDE, FIRST_SIDE);
        within = waters.cells;
        hour = 0;
        canoe = NONE;
    }

    public boolean sea(int w, int h) {
        if (w < LEAST_SIDE || w > MOST_SIDE || h < LEAST_SIDE || h > MOST_SIDE) {
            return false;
        }
        waters.lay(w, h);
        startWith(waters.cells);
        return true;
    }

    public boolean land(int cell, int reach) {
        if (!waters.hasCell(cell) || reach < NONE || reach > MOST_REACH) {
            return false;
        }
        waters.setReach(cell, reach);
        return true;
    }

    public boolean swell(int cell, int v) {
        if (!waters.hasCell(cell) || v < 0 || v > MOST_SWELL) {
            return false;
        }
        waters.setSwell(cell, v);
        return true;
    }

    public boolean drifts(int watch, int set) {
        if (!isWatch(watch) || set <= 0 || set >= 1 << WAY_COUNT) {
            return false;
        }
        waters.setDrifts(watch, set);
        return true;
    }

    public boolean watches(int night, int flight) {
        if (!isWatchSet(night) || !isWatchSet(flight)) {
            return false;
        }
        waters.setWatches(night, flight);
        return true;
    }

    public int look(int what) {
        switch (what) {
            case 0: return waters.width;
            case 1: return waters.height;
            case 2: return hour;
            case 3: return Long.bitCount(within);
            case 4: return Long.bitCount(within & waters.shore);
            case 5: return canoe;
            case 6: return sung.size;
            case 7: return waters.nights;
            case 8: return waters.flights;
            default: return lookAtRows(what);
        }
    }

    private int lookAtRows(int what) {
        if (what >= 200) {
            return waters.hasCell(what - 200) ? waters.swells[what - 200] : NO_SUCH;
        }
        if (what >= 100) {
            return waters.hasCell(what - 100) ? waters.reaches[what - 100] : NO_SUCH;
        }
        if (what >= 10) {
            return isWatch(what - 10) ? waters.driftSets[what - 10] : NO_SUCH;
        }
        return NO_SUCH;
    }

    public long reckoned() {
        return within;
    }

    public boolean begin(long set) {
        if (set == 0 || (set & ~waters.cells) != 0) {
            return false;
        }
        startWith(set);
        return true;
    }

    private void startWith(long set) {
        within = set;
        hour = 0;
        canoe = NONE;
    }

    public boolean put(int cell) {
        if (!waters.hasCell(cell) || !has(within, cell)) {
            return false;
        }
        canoe = cell;
        return true;
    }

    public int steer(int way, int drift) {
        int watch = watchNow();
        if (!isWay(way) || !isWay(drift) || !waters.driftsBy(watch, drift) || hour >= LAST_HOUR) {
            return NONE;
        }
        waters.spread(within);
        within = waters.spreadBy(way, watch);
        if (waters.hasCell(canoe) && !has(waters.shore, canoe)) {
            canoe = waters.target(canoe, way, drift);
        }
        hour++;
        return Long.bitCount(within);
    }

    public int sign(int cell, int watch, int what) {
        if (!waters.hasCell(cell) || !isWatch(watch) || !isSign(what)) {
            return NO_SUCH;
        }
        return waters.signAt(cell, watch, what);
    }

    public int see(int what, int v) {
        if (!isSign(what)) {
            return NONE;
        }
        long left = within & waters.having(what, v, watchNow());
        if (left == 0 || waters.hasCell(canoe) && !has(left, canoe)) {
            return NONE;
        }
        within = left;
        return Long.bitCount(within);
    }

    public int sights() {
        if (!waters.hasCell(canoe)) {
            return NONE;
        }
        int watch = watchNow();
        for (int what = SWELL; what <= BIRDS; what++) {
            within &= waters.having(what, waters.signAt(canoe, watch, what), watch);
        }
        return Long.bitCount(within);
    }

    public int feed(int a, int b, int c, int d, int e) {
        if (reader.length + BYTES_A_FEED > MOST_BYTES) {
            return NONE;
        }
        reader.append(a);
        reader.append(b);
        reader.append(c);
        reader.append(d);
        reader.append(e);
        return reader.length;
    }

    public int end(int n) {
        if (n < 0 || n > reader.length) {
            return NONE;
        }
        reader.length = n;
        return n;
    }

    public int chant() {
        boolean good = reader.readInto(draft);
        reader.length = 0;
        if (!good) {
            return NONE;
        }
        Chant before = sung;
        sung = draft;
        draft = before;
        if (judge != null) {
            judge.forget();
        }
        return sung.size;
    }

    public int fault(int what) {
        if (what == 0) {
            return reader.fault;
        }
        return what == 1 ? reader.faultPlace : NONE;
    }

    public int sure(int what) {
        if (what < 0 || what > 2) {
            return NO_SUCH;
        }
        Judge told = judgeOfNow();
        if (what == 0) {
            return told.longestOf(within, watchNow());
        }
        return what == 1 ? told.shortestOf(within, watchNow()) : told.unsureOf(within, watchNow());
    }

    public int from(int cell) {
        if (!waters.hasCell(cell)) {
            return NO_SUCH;
        }
        return judgeOfNow().longestOf(1L << cell, watchNow());
    }

    private Judge judgeOfNow() {
        if (judge == null) {
            judge = new Judge();
        }
        judge.hear(waters, sung);
        return judge;
    }

    public int sings(int line) {
        if (!waters.hasCell(canoe) || line < 0 || line >= sung.size) {
            return NONE;
        }
        if (has(waters.shore, canoe)) {
            return ON_LAND;
        }
        for (int at = line; at < sung.size; at++) {
            if (!has(sung.stops(at, waters, watchNow()), canoe)) {
                return sung.ways[at];
            }
        }
        return OVER;
    }

    public int blind(int what) {
        int place = what - 10;
        boolean asksWay = what >= 10 && place < MOST_BLIND_HOURS;
        if (what != 0 && !asksWay) {
            return NO_SUCH;
        }
        if (search == null) {
            search = new Search();
        }
        int hours = search.shortest(waters, within, watchNow());
        if (hours < 0 || what == 0) {
            return hours;
        }
        return place < hours ? search.row[place] : NO_SUCH;
    }

    private int watchNow() {
        return hour % WATCH_COUNT;
    }

    private static boolean isWatch(int watch) {
        return watch >= 0 && watch < WATCH_COUNT;
    }

    private static boolean isWatchSet(int set) {
        return set >= 0 && set < 1 << WATCH_COUNT;
    }

    private static boolean isWay(int way) {
        return way >= 0 && way < WAY_COUNT;
    }

    private static boolean isSign(int what) {
        return what >= SWELL && what <= BIRDS;
    }

    private static boolean has(long set, int member) {
        return (set >>> member & 1L) != 0;
    }

    /** The cells with all that is set on them, and how sets of cells are moved. */
    private static final class Sea {
        private static final int SHIFTS_A_ROW = 5;

        int width;
        int height;
        int count;
        /** Rises with each change, so that what was worked out from the sea knows that it is stale. */
        int version;
        long cells;
        long shore;
        int nights;
        int flights;
        final int[] reaches = new int[MOST_CELLS];
        final int[] swells = new int[MOST_CELLS];
        final int[] driftSets = new int[WATCH_COUNT];
        private final int[] columns = new int[MOST_CELLS];
        private final int[] rows = new int[MOST_CELLS];
        private long birdCells;
        private long westEdge;
        private long eastEdge;
        private long northEdge;
        private long southEdge;
        private long rest;
        private final long[] shifts = new long[SHIFTS_A_ROW * SHIFTS_A_ROW];

        void lay(int w, int h) {
            width = w;
            height = h;
            count = w * h;
            shore = 0;
            birdCells = 0;
            nights = 0;
            flights = 0;
            Arrays.fill(reaches, NONE);
            Arrays.fill(swells, 0);
            Arrays.fill(driftSets, 1 << STILL);
            layCells();
            version++;
        }

        private void layCells() {
            cells = 0;
            westEdge = 0;
            eastEdge = 0;
            northEdge = 0;
            southEdge = 0;
            for (int y = 0; y < height; y++) {
                for (int x = 0; x < width; x++) {
                    layCell(width * y + x, x, y);
                }
            }
        }

        private void layCell(int cell, int x, int y) {
            if (cell < 0 || cell >= MOST_CELLS) {
                return;
            }
            long bit = 1L << cell;
            columns[cell] = x;
            rows[cell] = y;
            cells |= bit;
            westEdge |= x == 0 ? bit : 0;
            eastEdge |= x == width - 1 ? bit : 0;
            northEdge |= y == 0 ? bit : 0;
            southEdge |= y == height - 1 ? bit : 0;
        }

        boolean hasCell(int cell) {
            return cell >= 0 && cell < count;
        }

        void setReach(int cell, int reach) {
            reaches[cell] = reach;
            shore = shore & ~(1L << cell) | (reach == NONE ? 0 : 1L << cell);
            long near = 0;
            // what has the longest reach is grown in every round, so each land grows as often as its reach
            for (int round = MOST_REACH; round >= 0; round--) {
                near = grown(near) | landsOfReach(round);
            }
            birdCells = near;
            version++;
        }

        private long landsOfReach(int reach) {
            long found = 0;
            for (int cell = 0; cell < count; cell++) {
                if (reaches[cell] == reach) {
                    found |= 1L << cell;
                }
            }
            return found;
        }

        private long grown(long set) {
            long wide = set | oneWest(set) | oneEast(set);
            return wide | oneNorth(wide) | oneSouth(wide);
        }

        void setSwell(int cell, int v) {
            swells[cell] = v;
            version++;
        }

        void setDrifts(int watch, int set) {
            driftSets[watch] = set;
            version++;
        }

        void setWatches(int night, int flight) {
            nights = night;
            flights = flight;
            version++;
        }

        boolean driftsBy(int watch, int drift) {
            return has(driftSets[watch], drift);
        }

        boolean isAllLand(long set) {
            return (set & ~shore) == 0;
        }

        int signAt(int cell, int watch, int what) {
            if (what == SWELL) {
                return swells[cell];
            }
            if (what == STAR) {
                return has(nights, watch) ? rows[cell] / 2 : NONE;
            }
            return has(flights, watch) && has(birdCells, cell) ? 1 : 0;
        }

        long having(int what, int v, int watch) {
            long found = 0;
            for (int cell = 0; cell < count; cell++) {
                if (signAt(cell, watch, what) == v) {
                    found |= 1L << cell;
                }
            }
            return found;
        }

        /** Where a canoe that is not on land comes to. */
        int target(int cell, int way, int drift) {
            int x = columns[cell] + eastward(way) + eastward(drift);
            int y = rows[cell] + southward(way) + southward(drift);
            return width * clamped(y, height - 1) + clamped(x, width - 1);
        }

        private static int eastward(int way) {
            return way % 3 - 1;
        }

        private static int southward(int way) {
            return way / 3 - 1;
        }

        private static int clamped(int v, int most) {
            return Math.max(0, Math.min(v, most));
        }

        /** Makes a set's 25 shifts ready for spreadBy: its nine ways share them. */
        void spread(long set) {
            long afloat = set & ~shore;
            rest = set & shore;
            long north = oneNorth(afloat);
            long south = oneSouth(afloat);
            spreadRow(0, oneNorth(north));
            spreadRow(1, north);
            spreadRow(2, afloat);
            spreadRow(3, south);
            spreadRow(4, oneSouth(south));
        }

        private void spreadRow(int row, long middle) {
            int at = SHIFTS_A_ROW * row;
            long west = oneWest(middle);
            long east = oneEast(middle);
            shifts[at] = oneWest(west);
            shifts[at + 1] = west;
            shifts[at + 2] = middle;
            shifts[at + 3] = east;
            shifts[at + 4] = oneEast(east);
        }

        long spreadBy(int way, int watch) {
            long found = rest;
            int first = shiftOf(way);
            for (int drift = 0; drift < WAY_COUNT; drift++) {
                if (driftsBy(watch, drift)) {
                    found |= shifts[first + shiftOf(drift)];
                }
            }
            return found;
        }

        /** A way and a drift, each 0 .. 2 along x and y, add up to a place in the 5 by 5 shifts. */
        private static int shiftOf(int way) {
            return way / 3 * SHIFTS_A_ROW + way % 3;
        }

        private long oneWest(long set) {
            return (set & ~westEdge) >>> 1 | set & westEdge;
        }

        private long oneEast(long set) {
            return (set & ~eastEdge) << 1 | set & eastEdge;
        }

        private long oneNorth(long set) {
            return (set & ~northEdge) >>> width | set & northEdge;
        }

        private long oneSouth(long set) {
            return (set & ~southEdge) << width | set & southEdge;
        }
    }

    /** The lines of a chant; a line without a sign has NONE for it. */
    private static final class Chant {
        int size;
        final int[] ways = new int[MOST_LINES];
        final int[] signs = new int[MOST_LINES];
        final int[] values = new int[MOST_LINES];
        final int[] hours = new int[MOST_LINES];

        void add(int way, int sign, int value, int lineHours) {
            if (size >= MOST_LINES) {
                return;
            }
            ways[size] = way;
            signs[size] = sign;
            values[size] = value;
            hours[size] = lineHours;
            size++;
        }

        /** The cells in which a line's sign is there. */
        long stops(int line, Sea waters, int watch) {
            return signs[line] == NONE ? 0 : waters.having(signs[line], values[line], watch);
        }
    }

    /** The tape, and how it is read as a chant. */
    private static final class Reader {
        private static final int END = 0;
        private static final int WRONG = 1;
        private static final int NUMBER = 2;
        private static final int SEMICOLON = 3;
        private static final int STEER_WORD = 4;
        private static final int UNTIL_WORD = 5;
        private static final int FOR_WORD = 6;
        private static final int BIRDS_WORD = 7;
        private static final int SWELL_WORD = 8;
        private static final int STAR_WORD = 9;

        private static final int CANT_STAND = 1;
        private static final int CANT_BE = 2;
        private static final int TOO_MANY = 3;

        private static final int MOST_DIGITS = 2;

        int length;
        int fault;
        int faultPlace = NONE;
        private final char[] tape = new char[MOST_BYTES];
        private int place;
        private int token;
        private int tokenPlace;
        private int tokenValue;

        void append(int word) {
            for (int shift = 24; shift >= 0 && length < MOST_BYTES; shift -= 8) {
                tape[length] = (char) (word >>> shift & 255);
                length++;
            }
        }

        boolean readInto(Chant draft) {
            draft.size = 0;
            fault = 0;
            faultPlace = NONE;
            place = 0;
            readToken();
            // one round more than there may be lines, as the 13th is a fault of its own
            for (int line = 0; line <= MOST_LINES && fault == 0 && token != END; line++) {
                readLine(draft);
            }
            return fault == 0;
        }

        private void readLine(Chant draft) {
            if (token == STEER_WORD && draft.size >= MOST_LINES) {
                blame(TOO_MANY);
            }
            take(token == STEER_WORD);
            int way = numberWithin(0, WAY_COUNT - 1);
            take(token == NUMBER);
            int sign = NONE;
            int value = 1;
            if (token == UNTIL_WORD) {
                take(true);
                sign = signNamed();
                take(sign != NONE);
                if (sign == SWELL || sign == STAR) {
                    value = numberWithin(0, MOST_SIGN_NUMBER);
                    take(token == NUMBER);
                }
            }
            take(token == FOR_WORD);
            int lineHours = numberWithin(1, MOST_LINE_HOURS);
            take(token == NUMBER);
            take(token == SEMICOLON);
            if (fault == 0) {
                draft.add(way, sign, value, lineHours);
            }
        }

        private int signNamed() {
            switch (token) {
                case SWELL_WORD: return SWELL;
                case STAR_WORD: return STAR;
                case BIRDS_WORD: return BIRDS;
                default: return NONE;
            }
        }

        private int numberWithin(int least, int most) {
            if (token == NUMBER && (tokenValue < least || tokenValue > most)) {
                blame(CANT_BE);
            }
            return tokenValue;
        }

        /** Stands still from the first fault on, so that what is read behind it can't be blamed instead. */
        private void take(boolean canStand) {
            if (!canStand) {
                blame(CANT_STAND);
            }
            if (fault == 0) {
                readToken();
            }
        }

        private void blame(int kind) {
            if (fault == 0) {
                fault = kind;
                faultPlace = tokenPlace;
            }
        }

        private void readToken() {
            while (place < length && isBlank(tape[place])) {
                place++;
            }
            tokenPlace = place;
            tokenValue = 0;
            if (place >= length) {
                token = END;
            } else if (isLetter(tape[place])) {
                skipLetters();
                token = wordRead();
            } else if (isDigit(tape[place])) {
                readNumber();
            } else {
                token = tape[place] == ';' ? SEMICOLON : WRONG;
                place++;
            }
        }

        private void skipLetters() {
            while (place < length && isLetter(tape[place])) {
                place++;
            }
        }

        private int wordRead() {
            if (spells("steer")) {
                return STEER_WORD;
            }
            if (spells("until")) {
                return UNTIL_WORD;
            }
            if (spells("for")) {
                return FOR_WORD;
            }
            if (spells("birds")) {
                return BIRDS_WORD;
            }
            if (spells("swell")) {
                return SWELL_WORD;
            }
            return spells("star") ? STAR_WORD : WRONG;
        }

        private boolean spells(String word) {
            if (place - tokenPlace != word.length()) {
                return false;
            }
            for (int i = 0; i < word.length(); i++) {
                if (tape[tokenPlace + i] != word.charAt(i)) {
                    return false;
                }
            }
            return true;
        }

        private void readNumber() {
            while (place < length && isDigit(tape[place])) {
                // digits beyond the second make it no number, so their value is never asked for
                tokenValue = place - tokenPlace < MOST_DIGITS ? 10 * tokenValue + tape[place] - '0' : 0;
                place++;
            }
            token = place - tokenPlace <= MOST_DIGITS ? NUMBER : WRONG;
        }

        private static boolean isBlank(char c) {
            return c == 32 || c == 10;
        }

        private static boolean isLetter(char c) {
            return c >= 'a' && c <= 'z' || c >= 'A' && c <= 'Z';
        }

        private static boolean isDigit(char c) {
            return c >= '0' && c <= '9';
        }
    }

    /** The most and the fewest hours until the landing, by watch and cell; NEVER where none is sure, or none can be. */
    private static final class Outcomes {
        /** So far above any chant's hours that hours may be added to it and it is still told from them. */
        static final int NEVER = 1000000;

        final int[] most = new int[WATCH_COUNT * MOST_CELLS];
        final int[] fewest = new int[WATCH_COUNT * MOST_CELLS];

        void set(int at, int mostHours, int fewestHours) {
            most[at] = mostHours;
            fewest[at] = fewestHours;
        }

        void copyOf(Outcomes other) {
            System.arraycopy(other.most, 0, most, 0, most.length);
            System.arraycopy(other.fewest, 0, fewest, 0, fewest.length);
        }
    }

    /** Works the chant out from its end to its start, for every cell and watch at once. */
    private static final class Judge {
        private boolean heard;
        private int seaVersion;
        private Outcomes behindLine = new Outcomes();
        private Outcomes hourOn = new Outcomes();
        private Outcomes thisHour = new Outcomes();
        private final int[] targets = new int[MOST_CELLS * WAY_COUNT];
        private final long[] stops = new long[WATCH_COUNT];

        void forget() {
            heard = false;
        }

        void hear(Sea waters, Chant sung) {
            if (heard && seaVersion == waters.version) {
                return;
            }
            heard = true;
            seaVersion = waters.version;
            standAtEnd(waters);
            for (int line = sung.size - 1; line >= 0; line--) {
                goThroughLine(waters, sung, line);
            }
        }

        private void standAtEnd(Sea waters) {
            for (int watch = 0; watch < WATCH_COUNT; watch++) {
                for (int cell = 0; cell < MOST_CELLS; cell++) {
                    int hours = has(waters.shore, cell) ? 0 : Outcomes.NEVER;
                    behindLine.set(watch * MOST_CELLS + cell, hours, hours);
                }
            }
        }

        private void goThroughLine(Sea waters, Chant sung, int line) {
            findTargets(waters, sung.ways[line]);
            for (int watch = 0; watch < WATCH_COUNT; watch++) {
                stops[watch] = sung.stops(line, waters, watch);
            }
            hourOn.copyOf(behindLine);
            for (int left = sung.hours[line]; left > 0; left--) {
                for (int watch = 0; watch < WATCH_COUNT; watch++) {
                    goThroughHour(waters, watch);
                }
                Outcomes worked = thisHour;
                thisHour = hourOn;
                hourOn = worked;
            }
            Outcomes lineStart = hourOn;
            hourOn = behindLine;
            behindLine = lineStart;
        }

        private void findTargets(Sea waters, int way) {
            for (int cell = 0; cell < waters.count; cell++) {
                for (int drift = 0; drift < WAY_COUNT; drift++) {
                    targets[cell * WAY_COUNT + drift] = waters.target(cell, way, drift);
                }
            }
        }

        private void goThroughHour(Sea waters, int watch) {
            int next = (watch + 1) % WATCH_COUNT * MOST_CELLS;
            for (int cell = 0; cell < waters.count; cell++) {
                int at = watch * MOST_CELLS + cell;
                if (has(waters.shore, cell)) {
                    thisHour.set(at, 0, 0);
                } else if (has(stops[watch], cell)) {
                    thisHour.set(at, behindLine.most[at], behindLine.fewest[at]);
                } else {
                    steerOn(cell, at, next, waters.driftSets[watch]);
                }
            }
        }

        private void steerOn(int cell, int at, int next, int driftSet) {
            int most = 0;
            int fewest = Outcomes.NEVER;
            for (int drift = 0; drift < WAY_COUNT; drift++) {
                if (has(driftSet, drift)) {
                    int to = next + targets[cell * WAY_COUNT + drift];
                    most = Math.max(most, hourOn.most[to]);
                    fewest = Math.min(fewest, hourOn.fewest[to]);
                }
            }
            thisHour.set(at, most + 1, fewest + 1);
        }

        int longestOf(long set, int watch) {
            int most = 0;
            for (int cell = 0; cell < MOST_CELLS; cell++) {
                if (has(set, cell)) {
                    most = Math.max(most, behindLine.most[watch * MOST_CELLS + cell]);
                }
            }
            return most < Outcomes.NEVER ? most : NONE;
        }

        int shortestOf(long set, int watch) {
            int fewest = Outcomes.NEVER;
            for (int cell = 0; cell < MOST_CELLS; cell++) {
                if (has(set, cell)) {
                    fewest = Math.min(fewest, behindLine.fewest[watch * MOST_CELLS + cell]);
                }
            }
            return fewest < Outcomes.NEVER ? fewest : NONE;
        }

        int unsureOf(long set, int watch) {
            int unsure = 0;
            for (int cell = 0; cell < MOST_CELLS; cell++) {
                if (has(set, cell) && behindLine.most[watch * MOST_CELLS + cell] >= Outcomes.NEVER) {
                    unsure++;
                }
            }
            return unsure;
        }
    }

    /** Looks for the best blind row, hour by hour, among sets of cells. */
    private static final class Search {
        private static final int SPENT = NONE - 1;
        private static final int GOES_ON = 0;
        private static final int FOUND = 1;
        private static final int SLOT_BITS = 12;
        private static final int SLOTS = 1 << SLOT_BITS;
        private static final long SCATTER = 0x9E3779B97F4A7C15L;

        final int[] row = new int[MOST_BLIND_HOURS];
        private final long[] sets = new long[MOST_SETS];
        private final int[] setWatches = new int[MOST_SETS];
        /** Of each set: 9 times the set that it came from, and the way. */
        private final int[] origins = new int[MOST_SETS];
        /** Of each slot: 0, or 1 more than the set's place, so that a set is known again without a look at all. */
        private final int[] slots = new int[SLOTS];
        private int count;
        private boolean asked;
        private long askedSet;
        private int askedWatch;
        private int askedVersion;
        private int answer;

        /** The hours of the best row, which is then in row; NONE or SPENT. */
        int shortest(Sea waters, long set, int watch) {
            if (asked && askedSet == set && askedWatch == watch && askedVersion == waters.version) {
                return answer;
            }
            asked = true;
            askedSet = set;
            askedWatch = watch;
            askedVersion = waters.version;
            answer = waters.isAllLand(set) ? 0 : lookThrough(waters, set, watch);
            return answer;
        }

        private int lookThrough(Sea waters, long set, int watch) {
            Arrays.fill(slots, 0);
            count = 0;
            keepNew(set, watch, 0);
            int first = 0;
            for (int hours = 0; hours < MOST_BLIND_HOURS; hours++) {
                int behind = count;
                for (int at = first; at < behind; at++) {
                    int result = goOn(waters, at, hours);
                    if (result != GOES_ON) {
                        return result == FOUND ? hours + 1 : SPENT;
                    }
                }
                first = behind;
            }
            return NONE;
        }

        private int goOn(Sea waters, int at, int hours) {
            int watch = setWatches[at];
            int nextWatch = (watch + 1) % WATCH_COUNT;
            // No row goes on behind the last hour, so the sets that come up there do not count.
            boolean keeps = hours + 1 < MOST_BLIND_HOURS;
            waters.spread(sets[at]);
            for (int way = 0; way < WAY_COUNT; way++) {
                long next = waters.spreadBy(way, watch);
                if (waters.isAllLand(next)) {
                    writeRow(at, way, hours);
                    return FOUND;
                }
                if (keeps && !keepNew(next, nextWatch, at * WAY_COUNT + way)) {
                    return SPENT;
                }
            }
            return GOES_ON;
        }

        /** False if the set is new and there is no room for it. */
        private boolean keepNew(long set, int watch, int origin) {
            int home = (int) (((set + watch) * SCATTER) >>> (64 - SLOT_BITS));
            for (int step = 0; step < SLOTS; step++) {
                int slot = (home + step) & (SLOTS - 1);
                int known = slots[slot] - 1;
                if (known < 0) {
                    return keepAt(slot, set, watch, origin);
                }
                if (sets[known] == set && setWatches[known] == watch) {
                    return true;
                }
            }
            return false;
        }

        private boolean keepAt(int slot, long set, int watch, int origin) {
            if (count >= MOST_SETS) {
                return false;
            }
            sets[count] = set;
            setWatches[count] = watch;
            origins[count] = origin;
            count++;
            slots[slot] = count;
            return true;
        }

        private void writeRow(int at, int way, int hours) {
            row[hours] = way;
            int back = at;
            for (int place = hours - 1; place >= 0; place--) {
                row[place] = origins[back] % WAY_COUNT;
                back = origins[back] / WAY_COUNT;
            }
        }
    }
}
