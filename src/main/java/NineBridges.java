import java.util.ArrayList;
import java.util.Arrays;

/** Eight islets, bridges that turn between them, and the ways that carriers find there in time. */
public final class NineBridges {
    public static final int NONE = -1, UNKNOWN = -101, OUTSIDE = -102, STATE = -103, FULL = -104;

    private static final int ISLETS = 8;
    private static final int ALL_ISLETS = 255;
    private static final int BRIDGES_MOST = 10;
    private static final int ENDS_MOST = 3;
    private static final int LETTERS_MOST = 20;
    private static final int CODE_MOST = 126;
    private static final int NOTES_MOST = 6;
    private static final int NOTE_MINUTE_MOST = 99;
    private static final int OFFSET_MOST = 9;
    private static final int BEARS_MOST = 9;
    private static final int MINUTE_MOST = 999;
    private static final int LOOK_MINUTE_MOST = 9999;
    private static final int SOON_MOST = 400;
    private static final int CUT_MOST = 400;
    private static final int STARTS_MOST = 60;
    private static final int CROWD_MOST = 60;
    private static final int FOR_EVER = 999;
    private static final int NONE_COUNTS = 1000;
    private static final int DIGEST_CUT = 60;
    /** Later than every minute of a window: a place that is not reached in it. */
    private static final int NEVER = 2147483647;

    private final Page page = new Page();
    private final Reader reader = new Reader();
    private final ArrayList<Bridge> bridges = new ArrayList<Bridge>();
    private final Notes notes = new Notes();
    private final Image kept = new Image();
    private final Timetable table = new Timetable();
    private final Crowd carriers = new Crowd();
    private final int[] arrivals = new int[ISLETS];
    private final int[] otherArrivals = new int[ISLETS];
    private boolean frosty = false;

    public NineBridges() {
    }

    // ---- bridges

    public int letters(long w) {
        int many = lettersIn(w);
        if (many == OUTSIDE) return OUTSIDE;
        if (!page.hasRoom(many)) return FULL;
        for (int i = 0; i < many; i++) page.append(byteOf(w, i));
        return page.size();
    }

    public int blank() {
        return page.empty();
    }

    public int fault() {
        return page.readBy(reader);
    }

    public int bridge() {
        if (page.readBy(reader) < page.size() || !reader.isWhole()) return STATE;
        if (bridges.size() >= BRIDGES_MOST) return FULL;
        bridges.add(reader.made());
        page.empty();
        return bridges.size() - 1;
    }

    public int as(int bridge, int kind) {
        if (!isBridge(bridge)) return UNKNOWN;
        if (kind < 0 || kind > 3) return OUTSIDE;
        return isOfKind(bridges.get(bridge), kind) ? bridge : NONE;
    }

    public int about(int bridge, int what) {
        if (!isBridge(bridge)) return UNKNOWN;
        return told(bridges.get(bridge), what);
    }

    public int offset(int bridge, int v) {
        if (!isBridge(bridge)) return UNKNOWN;
        if (v < 0 || v > OFFSET_MOST) return OUTSIDE;
        Bridge one = bridges.get(bridge);
        int was = one.shift;
        one.shift = v;
        return was;
    }

    public int frost(boolean is) {
        int was = frosty ? 1 : 0;
        frosty = is;
        return was;
    }

    public int joins(int bridge, int minute) {
        if (!isBridge(bridge)) return UNKNOWN;
        if (minute < 0 || minute > LOOK_MINUTE_MOST) return OUTSIDE;
        Bridge one = bridges.get(bridge);
        return one.endAt(minute + one.shift, frosty);
    }

    public int lasts(int bridge, int minute) {
        if (!isBridge(bridge)) return UNKNOWN;
        if (minute < 0 || minute > LOOK_MINUTE_MOST) return OUTSIDE;
        Bridge one = bridges.get(bridge);
        return one.standsStill(minute + one.shift, frosty);
    }

    // ---- ways

    public int soonest(int from, int to, int minute, int pace, int weight) {
        if (!isIslet(from) || !isIslet(to)) return UNKNOWN;
        if (!isMinute(minute) || !isCarrier(pace, weight)) return OUTSIDE;
        openTable(minute, SOON_MOST, pace, weight);
        table.reach(from, 0, 1 << to, arrivals);
        return arrivals[to] == NEVER ? NONE : minute + arrivals[to];
    }

    public int last(int from, int to, int minute, int by, int pace, int weight) {
        if (!isIslet(from) || !isIslet(to)) return UNKNOWN;
        if (!isMinute(minute) || !isMinute(by) || by < minute) return OUTSIDE;
        if (!isCarrier(pace, weight)) return OUTSIDE;
        openTable(minute, by - minute, pace, weight);
        int latest = table.latestStart(from, to);
        return latest == NONE ? NONE : minute + latest;
    }

    public long again() {
        long all = 1;
        for (int b = 0; b < bridges.size(); b++) {
            long round = bridges.get(b).roundMinutes(frosty);
            long shared = sharedDivisor(all, round);
            if (shared > 0) all = all / shared * round;
        }
        return all;
    }

    public int cut(int islet, int minute, int many) {
        if (!isIslet(islet)) return UNKNOWN;
        if (!isMinute(minute) || many < 1 || many > CUT_MOST) return OUTSIDE;
        return minutesApart(islet, minute, many);
    }

    public int worst(int from, int to, int many, int pace, int weight) {
        if (!isIslet(from) || !isIslet(to)) return UNKNOWN;
        if (!isManyStarts(many) || !isCarrier(pace, weight)) return OUTSIDE;
        openTable(0, many - 1 + SOON_MOST, pace, weight);
        table.foresee(to);
        return table.longestWait(from, many);
    }

    public int mean(int from, int to, int many, int pace, int weight, int part) {
        if (!isIslet(from) || !isIslet(to)) return UNKNOWN;
        if (!isManyStarts(many) || !isCarrier(pace, weight) || part < 0 || part > 1) return OUTSIDE;
        openTable(0, many - 1 + SOON_MOST, pace, weight);
        table.foresee(to);
        int waits = table.waitsTogether(from, many);
        if (waits == NONE) return NONE;
        int shared = (int) sharedDivisor(waits, many);
        if (shared < 1) return NONE;
        return part == 0 ? waits / shared : many / shared;
    }

    public int set(int bridge, int from, int to) {
        if (!isBridge(bridge) || !isIslet(from) || !isIslet(to)) return UNKNOWN;
        Bridge one = bridges.get(bridge);
        if (one instanceof Fixed) return STATE;
        openTable(0, STARTS_MOST - 1 + SOON_MOST, 1, 1);
        int best = 0;
        int least = NEVER;
        for (int v = 0; v <= OFFSET_MOST; v++) {
            table.lay(bridge, one, v, frosty);
            table.foresee(to);
            int wait = table.longestWait(from, STARTS_MOST);
            if (wait == NONE) wait = NONE_COUNTS;
            if (wait < least) {
                least = wait;
                best = v;
            }
        }
        return best;
    }

    public int crowd(int from, int to, int minute, int by, int pace, int weight) {
        if (!isIslet(from) || !isIslet(to)) return UNKNOWN;
        if (!isMinute(minute) || by < minute || by > minute + CROWD_MOST) return OUTSIDE;
        if (!isCarrier(pace, weight)) return OUTSIDE;
        if (from == to) return STATE;
        openTable(minute, by - minute, pace, weight);
        return carriers.most(table, from, to);
    }

    public int stranded(int bridge, int end, int from) {
        if (!isBridge(bridge) || !isIslet(from)) return UNKNOWN;
        Bridge one = bridges.get(bridge);
        if (end < 0 || end >= one.endCount()) return OUTSIDE;
        openTable(0, SOON_MOST, 1, 1);
        table.layAlways(bridge, one.pivot, one.end(end));
        table.reach(from, 0, ALL_ISLETS, arrivals);
        int bits = 0;
        for (int i = 0; i < ISLETS; i++) {
            if (arrivals[i] == NEVER) bits |= 1 << i;
        }
        return bits;
    }

    public int meeting(int a, int b, int minute, int pace, int weight, int what) {
        if (!isIslet(a) || !isIslet(b)) return UNKNOWN;
        if (!isMinute(minute) || !isCarrier(pace, weight) || what < 0 || what > 1) return OUTSIDE;
        openTable(minute, SOON_MOST, pace, weight);
        table.reach(a, 0, ALL_ISLETS, arrivals);
        table.reach(b, 0, ALL_ISLETS, otherArrivals);
        int place = NONE;
        int when = NEVER;
        for (int i = 0; i < ISLETS; i++) {
            int both = Math.max(arrivals[i], otherArrivals[i]);
            if (both < when) {
                when = both;
                place = i;
            }
        }
        if (place == NONE) return NONE;
        return what == 0 ? place : minute + when;
    }

    // ---- notes

    public int note(int from, int minute, int to, int there) {
        if (!isIslet(from) || !isIslet(to)) return UNKNOWN;
        if (minute < 0 || minute > NOTE_MINUTE_MOST) return OUTSIDE;
        if (there < minute || there > minute + SOON_MOST) return OUTSIDE;
        if (notes.isFull()) return FULL;
        return notes.add(from, minute, to, there);
    }

    public int forget() {
        return notes.empty();
    }

    public int lost(int bridge) {
        if (!isBridge(bridge)) return UNKNOWN;
        Bridge one = bridges.get(bridge);
        openTable(0, NOTE_MINUTE_MOST + SOON_MOST, 1, 1);
        if (one instanceof Fixed) return allNotesHold() ? 1 : 0;
        int round = one.roundMinutes(frosty);
        if (round < 1) return 0;
        int bits = 0;
        for (int d = 0; d <= OFFSET_MOST; d++) {
            table.lay(bridge, one, Math.floorMod(one.shift - d, round), frosty);
            if (allNotesHold()) bits |= 1 << d;
        }
        return bits;
    }

    public int worth(int bridge, int pace, int weight) {
        if (!isBridge(bridge)) return UNKNOWN;
        if (!isCarrier(pace, weight)) return OUTSIDE;
        openTable(0, SOON_MOST, pace, weight);
        int with = waysTogether();
        table.layNothing(bridge);
        return waysTogether() - with;
    }

    // ---- what is told

    public int image() {
        kept.keep(bridges, frosty, notes);
        return bridges.size();
    }

    public int restore() {
        if (!kept.isKept()) return STATE;
        kept.giveBack(bridges, notes);
        frosty = kept.wasFrosty();
        return bridges.size();
    }

    public int count(int what) {
        switch (what) {
            case 0: return bridges.size();
            case 1: return frosty ? 1 : 0;
            case 2: return notes.size();
            case 3: return page.size();
            case 4: return turningBridges();
            default: return OUTSIDE;
        }
    }

    public long digest() {
        long h = 557;
        for (int b = 0; b < bridges.size(); b++) h = withBridge(h, bridges.get(b));
        h = with(h, again());
        openTable(0, SOON_MOST, 1, 1);
        table.reach(0, 0, ALL_ISLETS, arrivals);
        for (int i = 0; i < ISLETS; i++) {
            h = with(h, arrivals[i] == NEVER ? NONE : arrivals[i]);
            h = with(h, minutesApart(i, 0, DIGEST_CUT));
        }
        for (int n = 0; n < notes.size(); n++) {
            for (int part = 0; part < Notes.PARTS; part++) h = with(h, notes.part(n, part));
        }
        for (int i = 0; i < page.size(); i++) h = with(h, page.codeAt(i));
        for (int what = 0; what <= 4; what++) h = with(h, count(what));
        return h;
    }

    // ---- helpers

    private static int byteOf(long w, int place) {
        return (int) (w >>> (8 * place)) & 255;
    }

    private static int lettersIn(long w) {
        int many = 0;
        boolean ended = false;
        for (int i = 0; i < 8; i++) {
            int code = byteOf(w, i);
            if (code > CODE_MOST || (ended && code != 0)) return OUTSIDE;
            if (code == 0) ended = true;
            else many++;
        }
        return many;
    }

    private boolean isBridge(int number) {
        return number >= 0 && number < bridges.size();
    }

    private static boolean isIslet(int number) {
        return number >= 0 && number < ISLETS;
    }

    private static boolean isMinute(int minute) {
        return minute >= 0 && minute <= MINUTE_MOST;
    }

    private static boolean isManyStarts(int many) {
        return many >= 1 && many <= STARTS_MOST;
    }

    private static boolean isCarrier(int pace, int weight) {
        return pace >= 1 && pace <= 9 && weight >= 1 && weight <= 9;
    }

    private static boolean isOfKind(Bridge one, int kind) {
        switch (kind) {
            case 0: return true;
            case 1: return one instanceof Frosty;
            case 2: return one instanceof Swinging;
            case 3: return one instanceof Fixed;
            default: return false;
        }
    }

    private int told(Bridge one, int what) {
        switch (what) {
            case 0: return one.kind();
            case 1: return one.pivot;
            case 2: return one.endCount();
            case 3: return one.stand;
            case 4: return one.turn;
            case 5: return one.shift;
            case 6: return one.bears;
            case 7: return one.roundMinutes(frosty);
            case 10: return one.end(0);
            case 11: return one.end(1);
            case 12: return one.end(2);
            default: return OUTSIDE;
        }
    }

    private void openTable(int start, int span, int pace, int weight) {
        table.open(start, span, pace, bridges.size());
        for (int b = 0; b < bridges.size(); b++) {
            Bridge one = bridges.get(b);
            if (one.bears >= weight) table.lay(b, one, one.shift, frosty);
            else table.layNothing(b);
        }
    }

    private static long sharedDivisor(long a, long b) {
        // A hundred steps are more than Euclid needs for any two longs.
        for (int step = 0; step < 100 && b != 0; step++) {
            long rest = a % b;
            a = b;
            b = rest;
        }
        return a;
    }

    private int minutesApart(int islet, int minute, int many) {
        int apart = 0;
        for (int t = minute; t < minute + many; t++) {
            if (!isJoined(islet, t)) apart++;
        }
        return apart;
    }

    private boolean isJoined(int islet, int minute) {
        for (int b = 0; b < bridges.size(); b++) {
            Bridge one = bridges.get(b);
            int end = one.endAt(minute + one.shift, frosty);
            if (end != NONE && (end == islet || one.pivot == islet)) return true;
        }
        return false;
    }

    private boolean allNotesHold() {
        for (int n = 0; n < notes.size(); n++) {
            int to = notes.part(n, Notes.TO);
            if (!isIslet(to)) return false;
            table.reach(notes.part(n, Notes.FROM), notes.part(n, Notes.MINUTE), 1 << to, arrivals);
            if (arrivals[to] != notes.part(n, Notes.THERE)) return false;
        }
        return true;
    }

    private int waysTogether() {
        int all = 0;
        for (int from = 0; from < ISLETS; from++) {
            table.reach(from, 0, ALL_ISLETS, arrivals);
            // The way from an islet to itself takes no minutes, so it adds nothing.
            for (int to = 0; to < ISLETS; to++) all += arrivals[to] == NEVER ? NONE_COUNTS : arrivals[to];
        }
        return all;
    }

    private int turningBridges() {
        int turning = 0;
        for (int b = 0; b < bridges.size(); b++) {
            if (!(bridges.get(b) instanceof Fixed)) turning++;
        }
        return turning;
    }

    private static long with(long h, long number) {
        return 31 * h + number;
    }

    private long withBridge(long h, Bridge one) {
        long sum = h;
        for (int what = 0; what <= 7; what++) sum = with(sum, told(one, what));
        for (int what = 10; what <= 12; what++) sum = with(sum, told(one, what));
        for (int minute = 0; minute <= 7; minute += 7) {
            sum = with(sum, one.endAt(minute + one.shift, frosty));
            sum = with(sum, one.standsStill(minute + one.shift, frosty));
        }
        return sum;
    }

    /** The letters that have come and are not yet read as a bridge. */
    private static final class Page {
        private final int[] codes = new int[LETTERS_MOST];
        private int size = 0;

        int size() {
            return size;
        }

        boolean hasRoom(int many) {
            return size + many <= codes.length;
        }

        void append(int code) {
            if (size < codes.length) codes[size++] = code;
        }

        int empty() {
            int had = size;
            size = 0;
            return had;
        }

        int codeAt(int place) {
            return place >= 0 && place < size ? codes[place] : 0;
        }

        /** The place of the first letter that the reader does not take; the size, if it takes all. */
        int readBy(Reader reader) {
            reader.begin();
            for (int i = 0; i < size; i++) {
                if (!reader.takes(codes[i])) return i;
            }
            return size;
        }
    }

    /** Reads a bridge letter by letter; what it has taken is always how some bridge begins. */
    private static final class Reader {
        private static final int AT_SIGN = 0, AT_PIVOT = 1, AT_COLON = 2, AT_ENDS = 3, AT_STAND = 4, AT_SLASH = 5,
                AT_TURN = 6, AT_PLUS = 7, AT_OFFSET = 8, AT_W = 9, AT_BEARS = 10, AT_CLOSE = 11;

        private final int[] ends = new int[ENDS_MOST];
        private int stage, kind, pivot, endCount, stand, turn, shift, bears;

        void begin() {
            stage = AT_SIGN;
            kind = 0;
            endCount = 0;
            bears = BEARS_MOST;
        }

        boolean isWhole() {
            return stage == AT_W || stage == AT_CLOSE;
        }

        boolean takes(int code) {
            switch (stage) {
                case AT_SIGN: return takesSign(code) || takesPivot(code);
                case AT_PIVOT: return takesPivot(code);
                case AT_COLON: return takesMark(code, ':');
                case AT_ENDS: return takesEnd(code) || (endCount > 0 && takesMark(code, ','));
                case AT_SLASH: return takesMark(code, '/');
                case AT_PLUS: return takesMark(code, '+');
                case AT_W: return takesMark(code, 'w');
                case AT_STAND:
                case AT_TURN:
                case AT_OFFSET:
                case AT_BEARS: return takesDigit(code);
                default: return false;
            }
        }

        private boolean takesSign(int code) {
            switch (code) {
                case '*': kind = 1; break;
                case '~': kind = 2; break;
                case '=': kind = 3; break;
                default: return false;
            }
            stage = AT_PIVOT;
            return true;
        }

        private boolean takesPivot(int code) {
            if (!isIslet(code - 'a')) return false;
            pivot = code - 'a';
            stage = AT_COLON;
            return true;
        }

        private boolean takesMark(int code, char mark) {
            if (code != mark) return false;
            stage++;
            return true;
        }

        private boolean takesEnd(int code) {
            int islet = code - 'a';
            if (!isIslet(islet) || islet == pivot || endCount >= ends.length) return false;
            for (int i = 0; i < endCount; i++) {
                if (ends[i] == islet) return false;
            }
            ends[endCount++] = islet;
            return true;
        }

        private boolean takesDigit(int code) {
            int digit = code - '0';
            int least = stage == AT_OFFSET ? 0 : 1;
            if (digit < least || digit > 9) return false;
            switch (stage) {
                case AT_STAND: stand = digit; break;
                case AT_TURN: turn = digit; break;
                case AT_OFFSET: shift = digit; break;
                default: bears = digit; break;
            }
            stage++;
            return true;
        }

        Bridge made() {
            switch (kind) {
                case 1: return new Frosty(this);
                case 2: return new Swinging(this);
                case 3: return new Fixed(this);
                default: return new Bridge(this);
            }
        }
    }

    /**
     * A bridge that goes round its ends. A moment is a minute and an offset together, so that a caller can ask
     * how the bridge would stand by another offset than its own.
     */
    private static class Bridge {
        final int pivot, stand, turn, bears;
        private final int[] ends;
        int shift;

        Bridge(Reader text) {
            pivot = text.pivot;
            stand = text.stand;
            turn = text.turn;
            bears = text.bears;
            shift = text.shift;
            ends = Arrays.copyOf(text.ends, Math.max(0, text.endCount));
        }

        int kind() {
            return 0;
        }

        int endCount() {
            return ends.length;
        }

        int end(int number) {
            return number >= 0 && number < ends.length ? ends[number] : NONE;
        }

        int turnMinutes(boolean frosty) {
            return turn;
        }

        int placeCount() {
            return ends.length;
        }

        int endOfPlace(int place) {
            return end(place);
        }

        int roundMinutes(boolean frosty) {
            return placeCount() * (stand + turnMinutes(frosty));
        }

        int endAt(int moment, boolean frosty) {
            int leg = stand + turnMinutes(frosty);
            int round = roundMinutes(frosty);
            if (leg < 1 || round < 1 || moment < 0) return NONE;
            int into = moment % round;
            return into % leg < stand ? endOfPlace(into / leg) : NONE;
        }

        int standsStill(int moment, boolean frosty) {
            int leg = stand + turnMinutes(frosty);
            if (leg < 1 || moment < 0) return 0;
            return Math.max(0, stand - moment % leg);
        }
    }

    /** Turns twice as long in frost. */
    private static class Frosty extends Bridge {
        Frosty(Reader text) {
            super(text);
        }

        int kind() {
            return 1;
        }

        int turnMinutes(boolean frosty) {
            return frosty ? 2 * turn : turn;
        }
    }

    /** Goes back the way that it came, instead of from the last end to the first. */
    private static final class Swinging extends Frosty {
        Swinging(Reader text) {
            super(text);
        }

        int kind() {
            return 2;
        }

        int placeCount() {
            return endCount() > 1 ? 2 * endCount() - 2 : 1;
        }

        int endOfPlace(int place) {
            return place < endCount() ? end(place) : end(placeCount() - place);
        }
    }

    /** Joins its first end always. */
    private static final class Fixed extends Bridge {
        Fixed(Reader text) {
            super(text);
        }

        int kind() {
            return 3;
        }

        int roundMinutes(boolean frosty) {
            return 1;
        }

        int endAt(int moment, boolean frosty) {
            return end(0);
        }

        int standsStill(int moment, boolean frosty) {
            return FOR_EVER;
        }
    }

    /** Who was where and when, as numbers in one row. */
    private static final class Notes {
        static final int FROM = 0, MINUTE = 1, TO = 2, THERE = 3, PARTS = 4;

        private final int[] parts = new int[NOTES_MOST * PARTS];
        private int size = 0;

        int size() {
            return size;
        }

        boolean isFull() {
            return size >= NOTES_MOST;
        }

        int add(int from, int minute, int to, int there) {
            if (isFull()) return size;
            int first = size * PARTS;
            parts[first + FROM] = from;
            parts[first + MINUTE] = minute;
            parts[first + TO] = to;
            parts[first + THERE] = there;
            size++;
            return size;
        }

        int part(int number, int part) {
            boolean is = number >= 0 && number < size && part >= 0 && part < PARTS;
            return is ? parts[number * PARTS + part] : NONE;
        }

        int empty() {
            int had = size;
            size = 0;
            return had;
        }

        void becomeLike(Notes others) {
            System.arraycopy(others.parts, 0, parts, 0, parts.length);
            size = others.size;
        }
    }

    /** What image() keeps for restore(). */
    private static final class Image {
        private final int[] shifts = new int[BRIDGES_MOST];
        private final Notes notes = new Notes();
        private int bridgeCount = NONE;
        private boolean frosty = false;

        boolean isKept() {
            return bridgeCount != NONE;
        }

        boolean wasFrosty() {
            return frosty;
        }

        void keep(ArrayList<Bridge> bridges, boolean isFrosty, Notes told) {
            bridgeCount = Math.min(bridges.size(), BRIDGES_MOST);
            for (int b = 0; b < bridgeCount; b++) shifts[b] = bridges.get(b).shift;
            frosty = isFrosty;
            notes.becomeLike(told);
        }

        void giveBack(ArrayList<Bridge> bridges, Notes told) {
            for (int b = bridges.size() - 1; b >= 0 && b >= bridgeCount; b--) bridges.remove(b);
            for (int b = 0; b < bridges.size() && b < BRIDGES_MOST; b++) bridges.get(b).shift = shifts[b];
            told.becomeLike(notes);
        }
    }

    /**
     * A window of minutes, counted from its start, for carriers of one pace: where each bridge lets one begin to
     * go in each of them. A row can be laid anew to see what would be, if a bridge were otherwise.
     */
    private static final class Timetable {
        private final int[][] landings = new int[BRIDGES_MOST][MINUTE_MOST + 1];
        private final int[] pivots = new int[BRIDGES_MOST];
        private final int[] touched = new int[BRIDGES_MOST];
        private final int[][] firsts = new int[ISLETS][STARTS_MOST + SOON_MOST];
        private final int[] latest = new int[ISLETS];
        private int start = 0, span = 0, pace = 1, rows = 0;

        void open(int first, int minutes, int minutesAcross, int bridgeCount) {
            start = first;
            span = Math.max(0, Math.min(minutes, MINUTE_MOST));
            pace = Math.max(1, minutesAcross);
            rows = Math.max(0, Math.min(bridgeCount, BRIDGES_MOST));
        }

        int span() {
            return span;
        }

        int pace() {
            return pace;
        }

        int pivot(int row) {
            return row >= 0 && row < rows ? pivots[row] : NONE;
        }

        /** The end to or from which one may begin to go in a minute, so as to be across in the window. */
        int landing(int row, int t) {
            boolean is = row >= 0 && row < rows && t >= 0 && t + pace <= span;
            return is ? landings[row][t] : NONE;
        }

        void lay(int row, Bridge one, int shift, boolean frosty) {
            if (row < 0 || row >= rows) return;
            int round = one.roundMinutes(frosty);
            int[] ends = landings[row];
            int bits = 0;
            for (int t = 0; t < span; t++) {
                if (round > 0 && t >= round) {
                    ends[t] = ends[t - round];
                    continue;
                }
                int moment = start + t + shift;
                int end = one.standsStill(moment, frosty) >= pace ? one.endAt(moment, frosty) : NONE;
                ends[t] = end;
                if (end != NONE) bits |= 1 << end | 1 << one.pivot;
            }
            pivots[row] = one.pivot;
            touched[row] = bits;
        }

        void layAlways(int row, int pivot, int end) {
            if (row < 0 || row >= rows) return;
            Arrays.fill(landings[row], end);
            pivots[row] = pivot;
            touched[row] = end == NONE ? 0 : 1 << end | 1 << pivot;
        }

        void layNothing(int row) {
            layAlways(row, 0, NONE);
        }

        /**
         * The first minutes in which a carrier from an islet can be in each, SOON_MOST later at most, else NEVER;
         * it is free to leave out those that aren't wanted (bits).
         */
        void reach(int from, int begin, int wanted, int[] there) {
            Arrays.fill(there, NEVER);
            if (from < 0 || from >= there.length) return;
            there[from] = begin;
            int missing = wanted & everReached(from) & ~(1 << from);
            int lastStart = Math.min(span, begin + SOON_MOST) - pace;
            for (int t = begin; t <= lastStart && missing != 0; t++) {
                for (int row = 0; row < rows; row++) {
                    int end = landing(row, t);
                    if (end == NONE) continue;
                    int pivot = pivots[row];
                    if (there[pivot] <= t && there[end] == NEVER) {
                        there[end] = t + pace;
                        missing &= ~(1 << end);
                    } else if (there[end] <= t && there[pivot] == NEVER) {
                        there[pivot] = t + pace;
                        missing &= ~(1 << pivot);
                    }
                }
            }
        }

        /** Islets (bits) that hang together with one at all: no search for another one can end well. */
        private int everReached(int from) {
            int bits = 1 << from;
            for (int step = 0; step < ISLETS; step++) {
                for (int row = 0; row < rows; row++) {
                    if ((touched[row] & bits) != 0) bits |= touched[row];
                }
            }
            return bits;
        }

        /** The last minute in which one can be in an islet and still come to another one in the window. */
        int latestStart(int from, int to) {
            if (!isIslet(from) || !isIslet(to)) return NONE;
            Arrays.fill(latest, NONE);
            latest[to] = span;
            for (int t = span - pace; t >= 0 && latest[from] == NONE; t--) {
                for (int row = 0; row < rows; row++) {
                    int end = landing(row, t);
                    if (end == NONE) continue;
                    int pivot = pivots[row];
                    if (latest[pivot] >= t + pace && latest[end] == NONE) latest[end] = t;
                    else if (latest[end] >= t + pace && latest[pivot] == NONE) latest[pivot] = t;
                }
            }
            return latest[from];
        }

        /** For each islet and minute, when one who is there then can first be in an islet: from the last back. */
        void foresee(int to) {
            if (!isIslet(to)) return;
            int end = Math.min(span, STARTS_MOST + SOON_MOST - 1);
            for (int t = end; t >= 0; t--) {
                for (int i = 0; i < ISLETS; i++) firsts[i][t] = t == end ? NEVER : firsts[i][t + 1];
                firsts[to][t] = t;
                if (t + pace > end) continue;
                for (int row = 0; row < rows; row++) {
                    int other = landing(row, t);
                    if (other == NONE) continue;
                    int[] here = firsts[pivots[row]];
                    int[] beyond = firsts[other];
                    here[t] = Math.min(here[t], beyond[t + pace]);
                    beyond[t] = Math.min(beyond[t], here[t + pace]);
                }
            }
        }

        private int waitFrom(int from, int t) {
            if (!isIslet(from) || t < 0 || t >= STARTS_MOST || t > span) return NONE;
            int first = firsts[from][t];
            return first == NEVER || first - t > SOON_MOST ? NONE : first - t;
        }

        int longestWait(int from, int many) {
            int longest = 0;
            for (int t = 0; t < many; t++) {
                int wait = waitFrom(from, t);
                if (wait == NONE) return NONE;
                longest = Math.max(longest, wait);
            }
            return longest;
        }

        int waitsTogether(int from, int many) {
            int all = 0;
            for (int t = 0; t < many; t++) {
                int wait = waitFrom(from, t);
                if (wait == NONE) return NONE;
                all += wait;
            }
            return all;
        }
    }

    /**
     * How many carriers come through: a greatest flow over knots, each an islet in a minute. The two ways over a
     * bridge in one minute are counted apart here: two that go against each other may as well both stay and
     * change names, so this lets no more through than one a minute does.
     */
    private static final class Crowd {
        private static final int WIDTH = CROWD_MOST + 1;
        private static final int KNOTS = ISLETS * WIDTH;
        private static final int OUTWARD = 1, INWARD = 2;
        /** Ways out of a knot: each bridge, to wait, each bridge taken back, a wait taken back. */
        private static final int WAIT = BRIDGES_MOST, BACK = WAIT + 1, UNWAIT = BACK + BRIDGES_MOST, TRIES = UNWAIT + 1;
        private static final int STEPS_MOST = 1000000;
        private static final int FLOW_MOST = BRIDGES_MOST * WIDTH;

        private final int[] going = new int[BRIDGES_MOST * WIDTH];
        private final int[] waiting = new int[KNOTS];
        private final int[] tries = new int[KNOTS];
        private final int[] onPath = new int[KNOTS];
        private final int[] path = new int[KNOTS];

        int most(Timetable table, int from, int to) {
            if (!isIslet(from) || !isIslet(to) || from == to || table.span() >= WIDTH) return 0;
            Arrays.fill(going, 0);
            Arrays.fill(waiting, 0);
            int through = 0;
            boolean grew = true;
            // A knot that was given up may have been shut only by the path of that time: so all are tried anew,
            // until a whole search finds nothing.
            for (int round = 0; round <= FLOW_MOST && grew; round++) {
                Arrays.fill(tries, 0);
                int more = sendWhilePathsAreFound(table, from, to);
                through += more;
                grew = more > 0;
            }
            return through;
        }

        private int sendWhilePathsAreFound(Timetable table, int from, int to) {
            int sent = 0;
            for (int i = 0; i <= FLOW_MOST; i++) {
                int length = findPath(table, from, to);
                if (length == 0) break;
                for (int k = 0; k + 1 < length; k++) send(table, path[k], tries[path[k]]);
                sent++;
            }
            return sent;
        }

        private int findPath(Timetable table, int from, int to) {
            Arrays.fill(onPath, 0);
            int length = 1;
            path[0] = knot(from, 0);
            onPath[path[0]] = 1;
            for (int step = 0; step < STEPS_MOST && length > 0; step++) {
                int here = path[length - 1];
                if (here / WIDTH == to) return length;
                if (tries[here] >= TRIES) {
                    onPath[here] = 0;
                    length--;
                    if (length > 0) tries[path[length - 1]]++;
                    continue;
                }
                int next = nextKnot(table, here, tries[here]);
                if (next == NONE || onPath[next] != 0 || length >= KNOTS) {
                    tries[here]++;
                } else {
                    path[length++] = next;
                    onPath[next] = 1;
                }
            }
            return 0;
        }

        private static int knot(int islet, int t) {
            boolean is = islet >= 0 && islet < ISLETS && t >= 0 && t < WIDTH;
            return is ? islet * WIDTH + t : NONE;
        }

        private int nextKnot(Timetable table, int here, int way) {
            int islet = here / WIDTH;
            int t = here % WIDTH;
            if (way < WAIT) return acrossFrom(table, way, islet, t);
            if (way == WAIT) return t < table.span() ? knot(islet, t + 1) : NONE;
            if (way < UNWAIT) return takenBackFrom(table, way - BACK, islet, t);
            return t > 0 && waiting[here - 1] > 0 ? knot(islet, t - 1) : NONE;
        }

        private int acrossFrom(Timetable table, int row, int islet, int t) {
            int end = table.landing(row, t);
            if (end == NONE) return NONE;
            int pivot = table.pivot(row);
            int taken = going[row * WIDTH + t];
            if (islet == pivot && (taken & OUTWARD) == 0) return knot(end, t + table.pace());
            if (islet == end && (taken & INWARD) == 0) return knot(pivot, t + table.pace());
            return NONE;
        }

        private int takenBackFrom(Timetable table, int row, int islet, int t) {
            int begun = t - table.pace();
            int end = table.landing(row, begun);
            if (end == NONE) return NONE;
            int pivot = table.pivot(row);
            int taken = going[row * WIDTH + begun];
            if (islet == end && (taken & OUTWARD) != 0) return knot(pivot, begun);
            if (islet == pivot && (taken & INWARD) != 0) return knot(end, begun);
            return NONE;
        }

        private void send(Timetable table, int here, int way) {
            int islet = here / WIDTH;
            int t = here % WIDTH;
            if (way < WAIT) {
                going[way * WIDTH + t] ^= islet == table.pivot(way) ? OUTWARD : INWARD;
            } else if (way == WAIT) {
                waiting[here]++;
            } else if (way < UNWAIT) {
                int row = way - BACK;
                int begun = t - table.pace();
                if (begun >= 0) going[row * WIDTH + begun] ^= islet == table.pivot(row) ? INWARD : OUTWARD;
            } else if (t > 0) {
                waiting[here - 1]--;
            }
        }
    }
}
