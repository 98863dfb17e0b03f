import java.util.ArrayDeque;
import java.util.ArrayList;
import java.util.Arrays;
import java.util.HashMap;
import java.util.List;
import java.util.Map;
import java.util.Random;
import java.util.regex.Matcher;
import java.util.regex.Pattern;

/** Long runs of chosen calls, each answered by the class and by a slow model that is written straight from the document. */
public final class AgainstModel {
    private static final int NONE = -1, UNKNOWN = -101, OUTSIDE = -102, STATE = -103, FULL = -104;
    private static final Map<String, int[]> seen = new HashMap<>();

    private static final class Swing {
        int kind, pivot, stand, turn, offset, bears;
        int[] ends;

        /** The whole round, a minute an element. */
        int[] round(boolean frost) {
            if (kind == 3) return new int[] {ends[0]};
            List<Integer> places = new ArrayList<>();
            for (int e : ends) places.add(e);
            if (kind == 2) for (int i = ends.length - 2; i >= 1; i--) places.add(ends[i]);
            int turns = frost && (kind == 1 || kind == 2) ? 2 * turn : turn;
            List<Integer> minutes = new ArrayList<>();
            for (int p : places) {
                for (int i = 0; i < stand; i++) minutes.add(p);
                for (int i = 0; i < turns; i++) minutes.add(NONE);
            }
            return minutes.stream().mapToInt(Integer::intValue).toArray();
        }
    }

    private static final class Model {
        StringBuilder page = new StringBuilder();
        List<Swing> swings = new ArrayList<>();
        List<int[]> notes = new ArrayList<>();
        boolean frost;
        int[] keptOffsets;
        boolean keptFrost;
        List<int[]> keptNotes;
        // what would be: one bridge stuck, or gone, or by another offset
        int odd = NONE, oddStuckEnd = NONE, oddOffset = NONE;
        boolean oddGone;

        static final Pattern WHOLE = Pattern.compile("([*~=]?)([a-h]):([a-h]{1,3}),([1-9])/([1-9])\\+([0-9])(?:w([1-9]))?");

        static boolean isBridge(String s) {
            Matcher m = WHOLE.matcher(s);
            if (!m.matches()) return false;
            String all = m.group(2) + m.group(3);
            return all.chars().distinct().count() == all.length();
        }

        /** Whether some bridge begins so: by trying endings, up to the longest that can be wanted. */
        static boolean begins(String s) {
            for (String tail : TAILS) {
                for (char c = 'a'; c <= 'h'; c++) {
                    for (char d = 'a'; d <= 'h'; d++) {
                        if (isBridge(s + tail.replace('P', c).replace('E', d))) return true;
                    }
                }
            }
            return false;
        }
        static final String[] TAILS = tails();

        static String[] tails() {
            String whole = "P:E,1/1+0w1";
            List<String> out = new ArrayList<>();
            for (int i = 0; i <= whole.length(); i++) {
                out.add(whole.substring(i));
                if (i <= whole.length() - 2) out.add(whole.substring(i, whole.length() - 2));
            }
            return out.toArray(new String[0]);
        }

        int letters(long w) {
            StringBuilder come = new StringBuilder();
            boolean ended = false;
            for (int i = 0; i < 8; i++) {
                int b = (int) ((w >> (8 * i)) & 0xff);
                if (b > 126) return OUTSIDE;
                if (b == 0) ended = true;
                else if (ended) return OUTSIDE;
                else come.append((char) b);
            }
            if (page.length() + come.length() > 20) return FULL;
            page.append(come);
            return page.length();
        }

        int blank() { int n = page.length(); page.setLength(0); return n; }

        int fault() {
            for (int i = 0; i < page.length(); i++) if (!begins(page.substring(0, i + 1))) return i;
            return page.length();
        }

        int bridge() {
            String s = page.toString();
            if (!isBridge(s)) return STATE;
            if (swings.size() == 10) return FULL;
            Matcher m = WHOLE.matcher(s);
            m.matches();
            Swing w = new Swing();
            w.kind = m.group(1).isEmpty() ? 0 : "*~=".indexOf(m.group(1)) + 1;
            w.pivot = m.group(2).charAt(0) - 'a';
            w.ends = m.group(3).chars().map(c -> c - 'a').toArray();
            w.stand = Integer.parseInt(m.group(4));
            w.turn = Integer.parseInt(m.group(5));
            w.offset = Integer.parseInt(m.group(6));
            w.bears = m.group(7) == null ? 9 : Integer.parseInt(m.group(7));
            swings.add(w);
            page.setLength(0);
            return swings.size() - 1;
        }

        boolean noBridge(int b) { return b < 0 || b >= swings.size(); }
        boolean noIslet(int i) { return i < 0 || i > 7; }
        boolean out(int v, int low, int high) { return v < low || v > high; }

        int as(int b, int kind) {
            if (noBridge(b)) return UNKNOWN;
            if (out(kind, 0, 3)) return OUTSIDE;
            int k = swings.get(b).kind;
            return kind == 0 || kind == k || (kind == 1 && k == 2) ? b : NONE;
        }

        int about(int b, int what) {
            if (noBridge(b)) return UNKNOWN;
            Swing w = swings.get(b);
            if (what >= 10 && what <= 12) return what - 10 < w.ends.length ? w.ends[what - 10] : NONE;
            if (out(what, 0, 7)) return OUTSIDE;
            return new int[] {w.kind, w.pivot, w.ends.length, w.stand, w.turn, w.offset, w.bears, w.round(frost).length}[what];
        }

        int offset(int b, int v) {
            if (noBridge(b)) return UNKNOWN;
            if (out(v, 0, 9)) return OUTSIDE;
            int was = swings.get(b).offset;
            swings.get(b).offset = v;
            return was;
        }

        int frost(boolean is) { int was = frost ? 1 : 0; frost = is; return was; }

        /** Which end is joined, all "what would be" looked at. */
        int end(int b, int t) {
            Swing w = swings.get(b);
            int off = w.offset;
            if (b == odd) {
                if (oddGone) return NONE;
                if (oddStuckEnd != NONE) return w.ends[oddStuckEnd];
                if (oddOffset != NONE) off = oddOffset;
            }
            int[] r = w.round(frost);
            return r[(t + off) % r.length];
        }

        int joins(int b, int t) {
            if (noBridge(b)) return UNKNOWN;
            return out(t, 0, 9999) ? OUTSIDE : end(b, t);
        }

        int lasts(int b, int t) {
            if (noBridge(b)) return UNKNOWN;
            if (out(t, 0, 9999)) return OUTSIDE;
            if (swings.get(b).kind == 3) return 999;
            int n = 0;
            while (end(b, t + n) != NONE && end(b, t + n) == end(b, t)) n++;
            return n;
        }

        /** ends[b][t - start]: joined end in the minutes of a window (made once a question, as it is slow). */
        int[][] look(int start, int many) {
            int[][] all = new int[swings.size()][many];
            for (int b = 0; b < swings.size(); b++) {
                if (b == odd && (oddGone || oddStuckEnd != NONE)) {
                    Arrays.fill(all[b], end(b, 0));
                    continue;
                }
                int[] r = swings.get(b).round(frost);
                int off = b == odd && oddOffset != NONE ? oddOffset : swings.get(b).offset;
                for (int t = 0; t < many; t++) all[b][t] = r[(start + t + off) % r.length];
            }
            return all;
        }

        /** First minutes behind the start in each islet, by sets of who can be where, minute by minute. */
        int[] firsts(int from, int start, int span, int pace, int weight) {
            int[][] ends = look(start, span + pace + 1);
            boolean[][] in = new boolean[span + pace + 1][8];
            int[] first = new int[8];
            Arrays.fill(first, NONE);
            in[0][from] = true;
            for (int t = 0; t <= span; t++) {
                for (int i = 0; i < 8; i++) {
                    if (!in[t][i]) continue;
                    if (first[i] == NONE) first[i] = t;
                    in[t + 1][i] = true;
                    for (int b = 0; b < swings.size(); b++) {
                        Swing w = swings.get(b);
                        int e = ends[b][t];
                        if (e == NONE || w.bears < weight) continue;
                        boolean all = true;
                        for (int k = 0; k < pace; k++) all &= ends[b][t + k] == e;
                        if (!all) continue;
                        if (i == w.pivot) in[t + pace][e] = true;
                        if (i == e) in[t + pace][w.pivot] = true;
                    }
                }
            }
            return first;
        }

        int soon(int from, int to, int t, int pace, int weight) {
            int f = firsts(from, t, 400, pace, weight)[to];
            return f == NONE ? NONE : t + f;
        }

        int soonest(int from, int to, int t, int pace, int weight) {
            if (noIslet(from) || noIslet(to)) return UNKNOWN;
            if (out(t, 0, 999) || out(pace, 1, 9) || out(weight, 1, 9)) return OUTSIDE;
            return soon(from, to, t, pace, weight);
        }

        int last(int from, int to, int t, int by, int pace, int weight) {
            if (noIslet(from) || noIslet(to)) return UNKNOWN;
            if (out(t, 0, 999) || out(by, t, 999) || out(pace, 1, 9) || out(weight, 1, 9)) return OUTSIDE;
            for (int s = by; s >= t; s--) if (firsts(from, s, by - s, pace, weight)[to] != NONE) return s;
            return NONE;
        }

        long again() {
            long n = 1;
            for (Swing w : swings) {
                long r = w.round(frost).length, m = n;
                while (m % r != 0) m += n;
                n = m;
            }
            return n;
        }

        int cut(int islet, int t, int many) {
            if (noIslet(islet)) return UNKNOWN;
            if (out(t, 0, 999) || out(many, 1, 400)) return OUTSIDE;
            int[][] ends = look(t, many);
            int n = 0;
            for (int k = 0; k < many; k++) {
                boolean off = true;
                for (int b = 0; b < swings.size(); b++) {
                    if (ends[b][k] == islet || (ends[b][k] != NONE && swings.get(b).pivot == islet)) off = false;
                }
                if (off) n++;
            }
            return n;
        }

        int[] waits(int from, int to, int many, int pace, int weight) {
            int[] w = new int[many];
            for (int s = 0; s < many; s++) {
                int at = soon(from, to, s, pace, weight);
                if (at == NONE) return null;
                w[s] = at - s;
            }
            return w;
        }

        int worst(int from, int to, int many, int pace, int weight) {
            if (noIslet(from) || noIslet(to)) return UNKNOWN;
            if (out(many, 1, 60) || out(pace, 1, 9) || out(weight, 1, 9)) return OUTSIDE;
            int[] w = waits(from, to, many, pace, weight);
            return w == null ? NONE : Arrays.stream(w).max().getAsInt();
        }

        int mean(int from, int to, int many, int pace, int weight, int part) {
            if (noIslet(from) || noIslet(to)) return UNKNOWN;
            if (out(many, 1, 60) || out(pace, 1, 9) || out(weight, 1, 9) || out(part, 0, 1)) return OUTSIDE;
            int[] w = waits(from, to, many, pace, weight);
            if (w == null) return NONE;
            int sum = Arrays.stream(w).sum();
            for (int below = 1; ; below++) {
                if (sum * below % many == 0) return part == 0 ? sum * below / many : below;
            }
        }

        int set(int b, int from, int to) {
            if (noBridge(b) || noIslet(from) || noIslet(to)) return UNKNOWN;
            if (swings.get(b).kind == 3) return STATE;
            int best = 0, least = 9999;
            for (int v = 0; v <= 9; v++) {
                odd = b;
                oddOffset = v;
                int w = worst(from, to, 60, 1, 1);
                odd = oddOffset = NONE;
                if (w == NONE) w = 1000;
                if (w < least) { least = w; best = v; }
            }
            return best;
        }

        int crowd(int from, int to, int t, int by, int pace, int weight) {
            if (noIslet(from) || noIslet(to)) return UNKNOWN;
            if (out(t, 0, 999) || out(by, t, t + 60) || out(pace, 1, 9) || out(weight, 1, 9)) return OUTSIDE;
            if (from == to) return STATE;
            int span = by - t;
            int[][] ends = look(t, span + 10);
            Net net = new Net();
            for (int i = 0; i < 8; i++) for (int k = 0; k < span; k++) net.edge(8 * k + i, 8 * k + 8 + i, 100000);
            int gate = 8 * (span + 1);
            for (int b = 0; b < swings.size(); b++) {
                Swing w = swings.get(b);
                for (int k = 0; k + pace <= span; k++) {
                    int e = ends[b][k];
                    boolean all = e != NONE && w.bears >= weight;
                    for (int j = 0; j < pace; j++) all &= ends[b][k + j] == e;
                    if (!all) continue;
                    // one gate of room 1 for both ways; through it and back to where one was is the same as to wait
                    net.edge(8 * k + w.pivot, gate, 1);
                    net.edge(8 * k + e, gate, 1);
                    net.edge(gate, gate + 1, 1);
                    net.edge(gate + 1, 8 * (k + pace) + w.pivot, 1);
                    net.edge(gate + 1, 8 * (k + pace) + e, 1);
                    gate += 2;
                }
            }
            return net.flow(from, 8 * span + to);
        }

        int stranded(int b, int end, int from) {
            if (noBridge(b) || noIslet(from)) return UNKNOWN;
            if (out(end, 0, swings.get(b).ends.length - 1)) return OUTSIDE;
            odd = b;
            oddStuckEnd = end;
            int[] f = firsts(from, 0, 400, 1, 1);
            odd = oddStuckEnd = NONE;
            int bits = 0;
            for (int i = 0; i < 8; i++) if (f[i] == NONE) bits += 1 << i;
            return bits;
        }

        int meeting(int a, int b, int t, int pace, int weight, int what) {
            if (noIslet(a) || noIslet(b)) return UNKNOWN;
            if (out(t, 0, 999) || out(pace, 1, 9) || out(weight, 1, 9) || out(what, 0, 1)) return OUTSIDE;
            int[] fa = firsts(a, t, 400, pace, weight), fb = firsts(b, t, 400, pace, weight);
            for (int k = 0; k <= 400; k++) {
                for (int i = 0; i < 8; i++) {
                    if (fa[i] != NONE && fb[i] != NONE && fa[i] <= k && fb[i] <= k) return what == 0 ? i : t + k;
                }
            }
            return NONE;
        }

        int note(int from, int t, int to, int there) {
            if (noIslet(from) || noIslet(to)) return UNKNOWN;
            if (out(t, 0, 99) || out(there, t, t + 400)) return OUTSIDE;
            if (notes.size() == 6) return FULL;
            notes.add(new int[] {from, t, to, there});
            return notes.size();
        }

        int forget() { int n = notes.size(); notes.clear(); return n; }

        int lost(int b) {
            if (noBridge(b)) return UNKNOWN;
            int bits = 0;
            int round = swings.get(b).round(frost).length;
            for (int d = 0; d <= (swings.get(b).kind == 3 ? 0 : 9); d++) {
                int less = swings.get(b).offset - d;
                while (less < 0) less += round;
                odd = b;
                oddOffset = less;
                boolean all = true;
                for (int[] n : notes) all &= soon(n[0], n[2], n[1], 1, 1) == n[3];
                odd = oddOffset = NONE;
                if (all) bits += 1 << d;
            }
            return bits;
        }

        int worth(int b, int pace, int weight) {
            if (noBridge(b)) return UNKNOWN;
            if (out(pace, 1, 9) || out(weight, 1, 9)) return OUTSIDE;
            int sum = 0;
            for (int from = 0; from < 8; from++) {
                int[] with = firsts(from, 0, 400, pace, weight);
                odd = b;
                oddGone = true;
                int[] without = firsts(from, 0, 400, pace, weight);
                odd = NONE;
                oddGone = false;
                for (int to = 0; to < 8; to++) {
                    if (to == from) continue;
                    sum += (without[to] == NONE ? 1000 : without[to]) - (with[to] == NONE ? 1000 : with[to]);
                }
            }
            return sum;
        }

        int image() {
            keptOffsets = swings.stream().mapToInt(w -> w.offset).toArray();
            keptFrost = frost;
            keptNotes = new ArrayList<>(notes);
            return swings.size();
        }

        int restore() {
            if (keptOffsets == null) return STATE;
            swings.subList(keptOffsets.length, swings.size()).clear();
            for (int b = 0; b < keptOffsets.length; b++) swings.get(b).offset = keptOffsets[b];
            frost = keptFrost;
            notes = new ArrayList<>(keptNotes);
            return swings.size();
        }

        int count(int what) {
            switch (what) {
                case 0: return swings.size();
                case 1: return frost ? 1 : 0;
                case 2: return notes.size();
                case 3: return page.length();
                case 4: return (int) swings.stream().filter(w -> w.kind != 3).count();
                default: return OUTSIDE;
            }
        }

        long digest() {
            List<Long> all = new ArrayList<>();
            for (int b = 0; b < swings.size(); b++) {
                for (int what = 0; what <= 12; what++) if (what < 8 || what > 9) all.add((long) about(b, what));
                for (int t : new int[] {0, 7}) {
                    all.add((long) joins(b, t));
                    all.add((long) lasts(b, t));
                }
            }
            all.add(again());
            for (int i = 0; i < 8; i++) {
                all.add((long) soonest(0, i, 0, 1, 1));
                all.add((long) cut(i, 0, 60));
            }
            for (int[] n : notes) for (int v : n) all.add((long) v);
            for (int i = 0; i < page.length(); i++) all.add((long) page.charAt(i));
            for (int what = 0; what <= 4; what++) all.add((long) count(what));
            long h = 557;
            for (long v : all) h = 31 * h + v;
            return h;
        }
    }

    /** A greatest flow in the plainest way: a shortest path at a time. */
    private static final class Net {
        final List<int[]> edges = new ArrayList<>();
        final Map<Integer, List<Integer>> out = new HashMap<>();

        void edge(int a, int b, int room) {
            out.computeIfAbsent(a, k -> new ArrayList<>()).add(edges.size());
            edges.add(new int[] {a, b, room});
            out.computeIfAbsent(b, k -> new ArrayList<>()).add(edges.size());
            edges.add(new int[] {b, a, 0});
        }

        int flow(int source, int sink) {
            int n = 0;
            while (true) {
                Map<Integer, Integer> by = new HashMap<>();
                ArrayDeque<Integer> queue = new ArrayDeque<>();
                queue.add(source);
                by.put(source, NONE);
                while (!queue.isEmpty() && !by.containsKey(sink)) {
                    int at = queue.poll();
                    for (int e : out.getOrDefault(at, List.of())) {
                        int[] edge = edges.get(e);
                        if (edge[2] > 0 && !by.containsKey(edge[1])) {
                            by.put(edge[1], e);
                            queue.add(edge[1]);
                        }
                    }
                }
                if (!by.containsKey(sink)) return n;
                n++;
                for (int at = sink; at != source; ) {
                    int e = by.get(at);
                    edges.get(e)[2]--;
                    edges.get(e ^ 1)[2]++;
                    at = edges.get(e)[0];
                }
            }
        }
    }

    private static final String[] CALLS = {"letters", "blank", "fault", "bridge", "as", "about", "offset", "frost", "joins",
        "lasts", "soonest", "last", "again", "cut", "worst", "mean", "set", "crowd", "stranded", "meeting", "note",
        "forget", "lost", "worth", "image", "restore", "count", "digest"};

    private static Random random;

    private static int pick(int low, int high) { return low + random.nextInt(high - low + 1); }

    /** Mostly between the bounds, often at one of them, sometimes outside. */
    private static int near(int low, int high) {
        int dice = pick(0, 39);
        if (dice == 0) return low - 1;
        if (dice == 1) return high + 1;
        if (dice == 2) return pick(0, 1) == 0 ? Integer.MIN_VALUE : Integer.MAX_VALUE;
        if (dice < 6) return low;
        if (dice < 9) return high;
        return pick(low, high);
    }

    private static String text(boolean slow) {
        StringBuilder s = new StringBuilder();
        String sign = pick(0, 3) == 0 ? "" : slow ? "~" : "*~=".substring(pick(0, 2)).substring(0, 1);
        s.append(sign);
        String islets = "abcdefgh";
        int many = slow ? 3 : pick(1, 3);
        StringBuilder chosen = new StringBuilder();
        while (chosen.length() < many + 1) {
            char c = islets.charAt(pick(0, 7));
            if (chosen.indexOf(String.valueOf(c)) < 0) chosen.append(c);
        }
        s.append(chosen.charAt(0)).append(':').append(chosen.substring(1)).append(',');
        s.append(slow ? pick(7, 9) : pick(1, 9)).append('/').append(slow ? pick(7, 9) : pick(1, 9)).append('+').append(pick(0, 9));
        if (pick(0, 2) == 0) s.append('w').append(pick(1, 9));
        if (pick(0, 9) == 0) s.setCharAt(pick(0, s.length() - 1), "abz:,/+w019*~= ".charAt(pick(0, 14)));
        if (pick(0, 14) == 0) s.deleteCharAt(pick(0, s.length() - 1));
        if (pick(0, 14) == 0) s.append("w5+:ab".charAt(pick(0, 5)));
        return s.toString();
    }

    private static long packed(String s) {
        long w = 0;
        for (int i = s.length() - 1; i >= 0; i--) w = w << 8 | s.charAt(i);
        return w;
    }

    private static int wrong = 0;
    private static int calls = 0;

    private static void compare(int run, String call, long got, long due) {
        calls++;
        int[] tally = seen.computeIfAbsent(call.substring(0, call.indexOf('(')), k -> new int[3]);
        tally[due == NONE ? 1 : due <= UNKNOWN && due >= FULL ? 2 : 0]++;
        if (got == due) return;
        wrong++;
        if (wrong < 40) System.out.println("run " + run + ": " + call + " answered " + got + ", the model says " + due);
    }

    private static void write(int run, NineBridges x, Model m, String s) {
        for (int i = 0; i < s.length(); i += 8) {
            long w = packed(s.substring(i, Math.min(s.length(), i + 8)));
            compare(run, "letters(" + w + ")", x.letters(w), m.letters(w));
        }
    }

    private static void call(int run, NineBridges x, Model m, boolean slow) {
        int f = near(0, 7), t = near(0, 7), b = near(0, Math.max(0, m.swings.size() - 1));
        int pace = near(1, slow || pick(0, 3) == 0 ? 9 : 3), weight = near(1, pick(0, 1) == 0 ? 9 : 3);
        int minute = pick(0, 1) == 0 ? near(0, 999) : near(0, 60);
        String name = CALLS[pick(0, CALLS.length - 1)];
        switch (name) {
            case "letters": {
                long w = pick(0, 3) == 0 ? random.nextLong() : packed("a:b=~*w9".substring(0, pick(0, 8)));
                if (pick(0, 5) == 0) w = pick(120, 130);
                compare(run, "letters(" + w + ")", x.letters(w), m.letters(w));
                break;
            }
            case "blank": compare(run, "blank()", x.blank(), m.blank()); break;
            case "fault": compare(run, "fault()", x.fault(), m.fault()); break;
            case "bridge":
                if (pick(0, 1) == 0) compare(run, "blank()", x.blank(), m.blank());
                write(run, x, m, text(slow));
                compare(run, "fault()", x.fault(), m.fault());
                compare(run, "bridge()", x.bridge(), m.bridge());
                break;
            case "as": { int k = near(0, 3); compare(run, "as(" + b + ", " + k + ")", x.as(b, k), m.as(b, k)); break; }
            case "about": { int k = near(0, 12); compare(run, "about(" + b + ", " + k + ")", x.about(b, k), m.about(b, k)); break; }
            case "offset": { int v = near(0, 9); compare(run, "offset(" + b + ", " + v + ")", x.offset(b, v), m.offset(b, v)); break; }
            case "frost": { boolean is = pick(0, 1) == 0; compare(run, "frost(" + is + ")", x.frost(is), m.frost(is)); break; }
            case "joins": { int at = near(0, 9999); compare(run, "joins(" + b + ", " + at + ")", x.joins(b, at), m.joins(b, at)); break; }
            case "lasts": { int at = near(0, 9999); compare(run, "lasts(" + b + ", " + at + ")", x.lasts(b, at), m.lasts(b, at)); break; }
            case "soonest": compare(run, "soonest(" + f + ", " + t + ", " + minute + ", " + pace + ", " + weight + ")", x.soonest(f, t, minute, pace, weight), m.soonest(f, t, minute, pace, weight)); break;
            case "last": {
                int by = pick(0, 2) == 0 ? near(0, 999) : pick(0, 9) == 0 ? minute - 1 : minute + pick(0, 60);
                compare(run, "last(" + f + ", " + t + ", " + minute + ", " + by + ", " + pace + ", " + weight + ")", x.last(f, t, minute, by, pace, weight), m.last(f, t, minute, by, pace, weight));
                break;
            }
            case "again": if (m.swings.size() <= 6) compare(run, "again()", x.again(), m.again()); break;
            case "cut": { int many = near(1, 400); compare(run, "cut(" + f + ", " + minute + ", " + many + ")", x.cut(f, minute, many), m.cut(f, minute, many)); break; }
            case "worst": { int many = near(1, 60); compare(run, "worst(" + f + ", " + t + ", " + many + ", " + pace + ", " + weight + ")", x.worst(f, t, many, pace, weight), m.worst(f, t, many, pace, weight)); break; }
            case "mean": { int many = near(1, 60), part = near(0, 1); compare(run, "mean(" + f + ", " + t + ", " + many + ", " + pace + ", " + weight + ", " + part + ")", x.mean(f, t, many, pace, weight, part), m.mean(f, t, many, pace, weight, part)); break; }
            case "set": if (pick(0, 4) == 0) compare(run, "set(" + b + ", " + f + ", " + t + ")", x.set(b, f, t), m.set(b, f, t)); break;
            case "crowd": { int by = pick(0, 9) == 0 ? near(minute, minute + 60) : minute + pick(0, 60); compare(run, "crowd(" + f + ", " + t + ", " + minute + ", " + by + ", " + pace + ", " + weight + ")", x.crowd(f, t, minute, by, pace, weight), m.crowd(f, t, minute, by, pace, weight)); break; }
            case "stranded": { int e = near(0, 2); compare(run, "stranded(" + b + ", " + e + ", " + f + ")", x.stranded(b, e, f), m.stranded(b, e, f)); break; }
            case "meeting": { int what = near(0, 1); compare(run, "meeting(" + f + ", " + t + ", " + minute + ", " + pace + ", " + weight + ", " + what + ")", x.meeting(f, t, minute, pace, weight, what), m.meeting(f, t, minute, pace, weight, what)); break; }
            case "note": {
                int at = near(0, 99);
                int there = pick(0, 3) == 0 ? near(at, at + 400) : at + pick(0, 20);
                boolean known = f >= 0 && f <= 7 && t >= 0 && t <= 7 && at >= 0 && at <= 99;
                if (known && pick(0, 2) > 0) there = m.soon(f, t, at, 1, 1);
                compare(run, "note(" + f + ", " + at + ", " + t + ", " + there + ")", x.note(f, at, t, there), m.note(f, at, t, there));
                break;
            }
            case "forget": if (pick(0, 3) == 0) compare(run, "forget()", x.forget(), m.forget()); break;
            case "lost": compare(run, "lost(" + b + ")", x.lost(b), m.lost(b)); break;
            case "worth": compare(run, "worth(" + b + ", " + pace + ", " + weight + ")", x.worth(b, pace, weight), m.worth(b, pace, weight)); break;
            case "image": if (pick(0, 3) == 0) compare(run, "image()", x.image(), m.image()); break;
            case "restore": if (pick(0, 3) == 0) compare(run, "restore()", x.restore(), m.restore()); break;
            case "count": { int what = near(0, 4); compare(run, "count(" + what + ")", x.count(what), m.count(what)); break; }
            default: if (m.swings.size() <= 6) compare(run, "digest()", x.digest(), m.digest()); break;
        }
    }

    public static void main(String[] args) {
        int runs = args.length > 0 ? Integer.parseInt(args[0]) : 150;
        int first = args.length > 1 ? Integer.parseInt(args[1]) : 1;
        for (int run = first; run < first + runs; run++) {
            random = new Random(run * 7919L);
            boolean slow = run % 4 == 0;
            NineBridges x = new NineBridges();
            Model m = new Model();
            int begun = pick(0, 9);
            for (int i = 0; i < begun; i++) {
                write(run, x, m, text(slow));
                compare(run, "bridge()", x.bridge(), m.bridge());
                if (m.page.length() > 0) compare(run, "blank()", x.blank(), m.blank());
            }
            for (int i = 0; i < 300; i++) call(run, x, m, slow);
        }
        if (args.length > 2) seen.forEach((k, v) -> System.out.println(k + " " + Arrays.toString(v)));
        System.out.println(calls + " calls, " + wrong + " unlike the model");
        if (wrong != 0) System.exit(1);
    }
}
