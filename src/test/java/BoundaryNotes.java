import java.util.ArrayList;
import java.util.Arrays;
import java.util.List;

/** Promises 22 to 29 at their bounds: NOTES, lost minutes, worth, the IMAGE, and what is told of all. */
public final class BoundaryNotes extends Asking {
    private static void note() {
        sentence("A NOTE: how many. UNKNOWN: from, to; OUTSIDE: minute (0 to 99), there (minute to 400 more); FULL.");
        for (int i = 0; i < 8; i++) {
            due("from " + i, new NineBridges().note(i, 0, 0, 0), 1);
            due("to " + i, new NineBridges().note(0, 0, i, 0), 1);
        }
        NineBridges x = new NineBridges();
        range(x, "from", 0, 7, UNKNOWN, from -> x.note(from, 0, 0, 0));
        x.forget();
        range(x, "to", 0, 7, UNKNOWN, to -> x.note(0, 0, to, 0));
        x.forget();
        range(x, "minute", 0, 99, OUTSIDE, t -> x.note(0, t, 1, 99));
        for (int t : new int[] {0, 1, 98, 99}) {
            x.forget();
            range(x, "there, from " + t, t, t + 400, OUTSIDE, there -> x.note(0, t, 1, there));
        }
    }

    private static void sixNotes() {
        sentence("NOTES (6 at most): a CARRIER of PACE 1, WEIGHT 1 started at an ISLET in a minute and was at another one in a minute, as SOON as it could.");
        NineBridges x = new NineBridges();
        for (int i = 1; i <= 6; i++) {
            due("note " + i, x.note(i, 0, 0, 0), i);
            due("count", x.count(2), i);
        }
        refused(x, "the seventh", FULL, () -> x.note(0, 0, 0, 0));
        refused(x, "UNKNOWN ahead of FULL", UNKNOWN, () -> x.note(8, 0, 0, 0));
        refused(x, "OUTSIDE ahead of FULL", OUTSIDE, () -> x.note(0, 100, 0, 100));
        NineBridges alike = new NineBridges();
        for (int i = 1; i <= 6; i++) due("alike, " + i, alike.note(0, 0, 1, 1), i);
        sentence("All NOTES are gone: how many there were.");
        due("six", x.forget(), 6);
        due("none", x.forget(), 0);
        due("as new", x.digest(), new NineBridges().digest());
        due("there is room", x.note(0, 0, 0, 0), 1);
        due("one", x.forget(), 1);
    }

    private static void lostArguments() {
        sentence("LOST, as bits. UNKNOWN.");
        NineBridges x = with("a:b,1/9+0", "=c:d,1/9+9", "~e:fgh,1/1+1");
        range(x, "bridge", 0, 2, UNKNOWN, x::lost);
        due("no BRIDGES", new NineBridges().lost(0), UNKNOWN);
        due("no NOTES", x.lost(0), 1023);
        due("no NOTES, FIXED", x.lost(1), 1);
        due("no NOTES, SWINGING", x.lost(2), 1023);
    }

    private static void lostMinutes() {
        sentence("LOST: the numbers d of minutes 0 to 9 (as bits) by which a BRIDGE may be behind (its OFFSET so much less, in its ROUND, round the clock; of a FIXED one 0 alone), all others as told, so that all NOTES are so.");
        // a and b are joined in one minute of ten: in minute d less OFFSET, round the clock
        for (int own = 0; own <= 9; own++) {
            for (int d = 0; d <= 9; d++) {
                NineBridges x = with("a:b,1/9+" + own);
                x.note(0, 0, 1, Math.floorMod(d - own, 10) + 1);
                due("OFFSET " + own + ", lost " + d, x.lost(0), 1 << d);
                due("it changes nothing", x.about(0, 5), own);
            }
        }
        for (int d = 0; d <= 11; d++) {
            NineBridges x = with("a:bc,1/9+0"), y = inFrost("~a:bcd,1/9+0");
            x.note(0, 0, 1, d + 1);
            y.note(0, 0, 1, d + 1);
            due("ROUND 20, lost " + d, x.lost(0), d <= 9 ? 1 << d : 0);
            due("ROUND 76, lost " + d, y.lost(0), d <= 9 ? 1 << d : 0);
        }
        NineBridges even = with("a:b,1/1+9");
        even.note(0, 0, 1, 1);
        due("ROUND 2, at once", even.lost(0), 0b1010101010);
        even.forget();
        even.note(0, 0, 1, 2);
        due("ROUND 2, a minute later", even.lost(0), 0b0101010101);
        even.forget();
        even.note(0, 0, 1, 3);
        due("ROUND 2, never so late", even.lost(0), 0);
        NineBridges frosty = with("*a:b,1/1+0");
        frosty.note(0, 0, 1, 1);
        frosty.frost(true);
        due("ROUND 3, in FROST", frosty.lost(0), 0b1001001001);
    }

    private static void lostByNotes() {
        sentence("LOST: the numbers d of minutes 0 to 9 (as bits) by which a BRIDGE may be behind (its OFFSET so much less, in its ROUND, round the clock; of a FIXED one 0 alone), all others as told, so that all NOTES are so.");
        NineBridges x = with("a:b,1/9+0w1", "=c:d,1/1+0", "b:c,1/9+0");
        x.note(0, 99, 1, 104);
        due("from minute 99 on", x.lost(0), 1 << 3);
        for (int i = 0; i < 5; i++) x.note(0, 10 * i, 1, 10 * i + 4);
        due("six that agree", x.lost(0), 1 << 3);
        x.forget();
        for (int i = 0; i < 5; i++) x.note(0, 10 * i, 1, 10 * i + 4);
        x.note(0, 99, 1, 103);
        due("the sixth does not", x.lost(0), 0);
        x.forget();
        x.note(0, 4, 1, 404);
        due("400 later", x.lost(0), 0);
        x.forget();
        x.note(6, 9, 6, 9);
        due("it was there", x.lost(0), 1023);
        due("it was there, FIXED", x.lost(1), 1);
        x.note(6, 9, 6, 10);
        due("it was there sooner", x.lost(0), 0);
        due("it was there sooner, FIXED", x.lost(1), 0);
        x.forget();
        x.note(2, 0, 3, 1);
        due("of FIXED, 0 alone", x.lost(1), 1);
        due("one that has no part in it", x.lost(0), 1023);
        x.note(2, 0, 3, 2);
        due("of FIXED, not so", x.lost(1), 0);
        x.forget();
        // the third as told: in minute 10, so the first may be behind by 0 to 9; then by 1 to 9 from minute 1 on
        x.note(0, 0, 2, 11);
        due("all others as told", x.lost(0), 1023);
        due("the third itself", x.lost(2), 1 << 0);
        x.forget();
        x.note(0, 1, 2, 21);
        due("the first as told, in minute 10", x.lost(2), 1 << 0);
        due("the first as told: joined in 10 too late", x.lost(0), 1 << 0);
        x.forget();
        x.note(0, 0, 7, 5);
        due("no way there", x.lost(0), 0);
    }

    private static void lostByFarNotes() {
        sentence("NOTES (6 at most): a CARRIER of PACE 1, WEIGHT 1 started at an ISLET in a minute and was at another one in a minute, as SOON as it could.");
        String[] texts = {"~h:fgb,8/9+6", "~d:ace,9/9+1", "~b:hge,9/9+9"};
        NineBridges x = inFrost(texts), y = inFrost(texts);
        due("400 later", x.soonest(0, 5, 11, 1, 1), 411);
        due("401 later", x.soonest(0, 5, 10, 1, 1), NONE);
        x.note(0, 11, 5, 411);
        y.note(0, 10, 5, 410);
        for (int b = 0; b < 3; b++) {
            due("400 later is a way, bridge " + b, x.lost(b) & 1, 1);
            due("none is there a minute sooner, bridge " + b, y.lost(b) & 1, 0);
            due("by each OFFSET that is less, bridge " + b, x.lost(b) & (2 << x.about(b, 5)) - 1, lostBySoonest(texts, b, 0, 11, 5, 411));
            due("and of the other note, bridge " + b, y.lost(b) & (2 << y.about(b, 5)) - 1, lostBySoonest(texts, b, 0, 10, 5, 410));
        }
    }

    /** The numbers up to the OFFSET itself, each tried as an OFFSET that is so much less. */
    private static int lostBySoonest(String[] texts, int b, int from, int minute, int to, int there) {
        NineBridges x = inFrost(texts);
        int own = x.about(b, 5), bits = 0;
        for (int d = 0; d <= own; d++) {
            x.offset(b, own - d);
            if (x.soonest(from, to, minute, 1, 1) == there) bits |= 1 << d;
        }
        return bits;
    }

    private static void worth() {
        sentence("WORTH. UNKNOWN; OUTSIDE: pace, weight.");
        NineBridges x = with("=a:b,1/1+0w5", "c:d,8/1+0", "=e:f,1/1+0", "=e:f,1/1+0");
        range(x, "bridge", 0, 3, UNKNOWN, b -> x.worth(b, 1, 1));
        range(x, "pace", 1, 9, OUTSIDE, pace -> x.worth(0, pace, 1));
        range(x, "weight", 1, 9, OUTSIDE, weight -> x.worth(0, 1, weight));
        refused(x, "UNKNOWN ahead of OUTSIDE: pace", UNKNOWN, () -> x.worth(4, 0, 1));
        refused(x, "UNKNOWN ahead of OUTSIDE: weight", UNKNOWN, () -> x.worth(-1, 1, 10));
        due("no BRIDGES", new NineBridges().worth(0, 1, 1), UNKNOWN);
        sentence("WORTH of a BRIDGE: by how much SOONEST would be later without it, over all pairs of unlike ISLETS from minute 0 on, together (NONE counts as 1000), by a CARRIER.");
        due("the only one, there and back", x.worth(0, 1, 5), 2 * 999);
        due("by PACE 9", x.worth(0, 9, 5), 2 * 991);
        due("too heavy", x.worth(0, 1, 6), 0);
        due("by PACE 8", x.worth(1, 8, 9), 2 * 992);
        due("too slow", x.worth(1, 9, 9), 0);
        due("one of two alike", x.worth(3, 1, 1), 0);
        NineBridges chain = with("=a:b,1/1+0", "=b:c,1/1+0", "=c:d,1/1+0", "=d:e,1/1+0", "=e:f,1/1+0", "=f:g,1/1+0", "=g:h,1/1+0");
        due("from four ISLETS to four, and back", chain.worth(3, 1, 1), 32 * 1000 - 128);
        due("from one to seven, and back", chain.worth(0, 1, 1), 14 * 1000 - 56);
        due("it changes nothing", chain.soonest(0, 7, 0, 1, 1), 7);
        String[] just400 = {"~g:dhc,9/9+9", "~b:fac,9/9+1", "~d:egh,9/8+9"}, just401 = {"~g:dhc,9/9+9", "~b:fac,9/9+1", "~d:egh,9/8+8"};
        due("400 later", inFrost(just400).soonest(5, 4, 0, 9, 1), 400);
        due("401 later", inFrost(just401).soonest(5, 4, 0, 9, 1), NONE);
        for (int b = 0; b < 3; b++) {
            due("with one of 400, bridge " + b, inFrost(just400).worth(b, 9, 1), laterWithout(just400, b, 9, 1));
            due("with one of 401, bridge " + b, inFrost(just401).worth(b, 9, 1), laterWithout(just401, b, 9, 1));
        }
    }

    private static int laterWithout(String[] texts, int b, int pace, int weight) {
        List<String> rest = new ArrayList<>(List.of(texts));
        rest.remove(b);
        return togetherBySoonest(inFrost(rest.toArray(new String[0])), pace, weight) - togetherBySoonest(inFrost(texts), pace, weight);
    }

    private static int togetherBySoonest(NineBridges x, int pace, int weight) {
        int all = 0;
        for (int from = 0; from < 8; from++) {
            for (int to = 0; to < 8; to++) {
                int soon = x.soonest(from, to, 0, pace, weight);
                if (from != to) all += soon == NONE ? 1000 : soon;
            }
        }
        return all;
    }

    private static void image() {
        sentence("An IMAGE is kept (one; the latest): how many BRIDGES.");
        NineBridges x = new NineBridges();
        refused(x, "none was kept", STATE, x::restore);
        for (int b = 0; b <= 10; b++) {
            due("of " + b + " BRIDGES", x.image(), b);
            if (b < 10) add(x, "a:b,1/1+" + b);
        }
        due("the latest, of 10", x.restore(), 10);
        sentence("It goes on from the IMAGE: how many BRIDGES. STATE: none was kept.");
        NineBridges empty = new NineBridges();
        due("an IMAGE of nothing", empty.image(), 0);
        for (int b = 0; b < 10; b++) add(empty, "a:b,1/1+" + b);
        for (int i = 0; i < 6; i++) empty.note(0, 0, 0, 0);
        empty.frost(true);
        due("back to nothing", empty.restore(), 0);
        due("as new", empty.digest(), new NineBridges().digest());
        due("again", empty.restore(), 0);
        add(empty, "=h:g,1/1+3");
        due("the number is free", empty.about(0, 1), 7);
    }

    private static void imageKeeps() {
        sentence("An IMAGE keeps OFFSETS, FROST, NOTES and how many BRIDGES there are (those that come since are gone by restore()).");
        NineBridges x = with("a:b,1/1+1", "*a:c,1/1+2", "=a:d,1/1+3");
        x.note(1, 2, 3, 4);
        x.note(5, 6, 7, 8);
        x.frost(true);
        long kept = x.digest();
        due("three BRIDGES", x.image(), 3);
        for (int b = 0; b < 3; b++) x.offset(b, 9);
        x.frost(false);
        x.forget();
        for (int i = 0; i < 6; i++) x.note(0, i, 0, i);
        for (int b = 3; b < 10; b++) add(x, "~a:bcd,1/1+0");
        due("restore()", x.restore(), 3);
        due("all is as it was", x.digest(), kept);
        due("gone", x.about(3, 0), UNKNOWN);
        for (int b = 3; b < 10; b++) add(x, "=a:h,1/1+0");
        write(x, "a:b,1/1+0");
        refused(x, "full again", FULL, x::bridge);
        due("a second time", x.restore(), 3);
        due("THE PAGE is not in it", x.count(3), 9);
        due("the PAGE can be read now", x.bridge(), 3);
        due("a third time", x.restore(), 3);
        due("all is as it was, the PAGE empty", x.digest(), kept);
        x.offset(0, 8);
        due("a later IMAGE", x.image(), 3);
        x.offset(0, 7);
        x.restore();
        due("its OFFSET", x.about(0, 5), 8);
        x.forget();
        due("an IMAGE without NOTES", x.image(), 3);
        x.note(0, 0, 0, 0);
        x.restore();
        due("no NOTES", x.count(2), 0);
        NineBridges full = with(times(10, "a:b,1/1+0"));
        for (int i = 0; i < 6; i++) full.note(0, i, 0, i);
        due("all that there may be", full.image(), 10);
        full.forget();
        full.offset(9, 9);
        due("ten", full.restore(), 10);
        due("six NOTES", full.count(2), 6);
        due("the OFFSET of the last", full.about(9, 5), 0);
    }

    private static String allWays(NineBridges x) {
        StringBuilder all = new StringBuilder().append(x.again()).append(' ').append(x.lost(0)).append(' ').append(x.worth(0, 1, 1));
        for (int to = 0; to < 8; to++) {
            for (int answer : new int[] {x.soonest(0, to, 5, 1, 1), x.last(0, to, 5, 90, 1, 1), x.cut(to, 5, 60), x.worst(0, to, 60, 1, 1),
                x.mean(0, to, 60, 1, 1, 0), x.crowd(0, to, 5, 65, 1, 1), x.meeting(0, to, 5, 1, 1, 1), x.set(0, 0, to), x.stranded(0, 0, to)}) {
                all.append(' ').append(answer);
            }
        }
        return all.append(' ').append(x.digest()).toString();
    }

    private static void goneBridgesLeaveNoWay() {
        sentence("(those that come since are gone by restore())");
        String[] texts = {"a:b,2/1+0", "=b:c,1/1+0", "*c:da,2/2+1", "=d:e,1/1+0", "~e:fga,3/1+2", "f:g,1/1+1", "=g:h,1/1+0", "*h:a,1/3+3", "=a:d,1/1+0", "~a:hge,4/1+0"};
        for (int kept = 0; kept <= 10; kept++) {
            NineBridges x = new NineBridges();
            for (int b = 0; b < kept; b++) add(x, texts[b]);
            x.image();
            String ahead = allWays(x);
            for (int b = kept; b < 10; b++) add(x, texts[b]);
            String all = allWays(x);
            due("more BRIDGES than " + kept + " are other ways", kept == 10 || !all.equals(ahead) ? 1 : 0, 1);
            x.restore();
            due("the ways over " + kept + " BRIDGES", allWays(x).equals(ahead) ? 1 : 0, 1);
        }
    }

    private static void count() {
        sentence("How many: 0 BRIDGES, 1 whether FROST is (1, 0), 2 NOTES, 3 letters of THE PAGE, 4 BRIDGES that turn (are not FIXED). OUTSIDE.");
        NineBridges x = new NineBridges();
        range(x, "what", 0, 4, OUTSIDE, x::count);
        String[] signs = {"=", "", "=", "*", "=", "~", "=", "", "=", "="};
        int turning = 0;
        for (int b = 0; b < 10; b++) {
            add(x, signs[b] + "a:b,1/1+0");
            if (!signs[b].equals("=")) turning++;
            due("BRIDGES", x.count(0), b + 1);
            due("that turn", x.count(4), turning);
        }
        x.frost(true);
        due("that turn, in FROST", x.count(4), 4);
        for (int i = 1; i <= 6; i++) {
            x.note(0, 0, 0, 0);
            due("NOTES", x.count(2), i);
        }
        for (int i = 1; i <= 20; i++) {
            x.letters('a');
            due("letters", x.count(3), i);
        }
        int[] most = {10, 1, 6, 20, 4};
        for (int what = 0; what <= 4; what++) due("all that there may be, " + what, x.count(what), most[what]);
        due("ten that turn", with(times(10, "~a:b,1/1+0")).count(4), 10);
    }

    /** The digest by what the other calls tell; NOTES and letters are told by the caller. */
    private static long digestBy(NineBridges x, int[][] notes, String page) {
        List<Long> all = new ArrayList<>();
        for (int b = 0; b < x.count(0); b++) {
            for (int what : new int[] {0, 1, 2, 3, 4, 5, 6, 7, 10, 11, 12}) all.add((long) x.about(b, what));
            for (int t : new int[] {0, 7}) {
                all.add((long) x.joins(b, t));
                all.add((long) x.lasts(b, t));
            }
        }
        all.add(x.again());
        for (int i = 0; i < 8; i++) {
            all.add((long) x.soonest(0, i, 0, 1, 1));
            all.add((long) x.cut(i, 0, 60));
        }
        for (int[] note : notes) for (int part : note) all.add((long) part);
        for (int i = 0; i < page.length(); i++) all.add((long) page.charAt(i));
        for (int what = 0; what <= 4; what++) all.add((long) x.count(what));
        return digestOf(all.stream().mapToLong(Long::longValue).toArray());
    }

    private static void digest() {
        sentence("h is 557, then for each of these numbers, in order, 31 times h, and it (as longs, wrapping): of each BRIDGE what about() tells "
            + "for 0 to 7, 10 to 12, joins() and lasts() in minutes 0, 7; AGAIN; of each ISLET SOONEST from 0 to it from minute 0 (PACE 1, WEIGHT 1), "
            + "CUT OFF of 60 minutes from 0; of each NOTE from, minute, to, there; letters of THE PAGE; what count() tells for 0 to 4.");
        due("of nothing", new NineBridges().digest(), digestOf(1, 0, 60, -1, 60, -1, 60, -1, 60, -1, 60, -1, 60, -1, 60, -1, 60, 0, 0, 0, 0, 0));
        NineBridges x = new NineBridges();
        String[] texts = {"a:b,1/1+0", "*b:cd,2/3+4w1", "~d:efg,9/9+9w5", "=g:hab,1/9+0", "~h:a,3/1+7", "a:c,9/1+1", "*a:d,1/9+2", "=e:f,1/1+0",
            "~a:hg,2/2+2", "c:def,5/5+5w9"};
        int[][] none = {}, notes = {{0, 0, 0, 0}, {7, 99, 7, 499}, {1, 2, 3, 4}, {0, 99, 1, 99}, {7, 0, 0, 400}, {3, 3, 3, 3}};
        for (boolean frost : new boolean[] {false, true}) {
            x.frost(frost);
            due("no BRIDGES, FROST " + frost, x.digest(), digestBy(x, none, ""));
        }
        for (int b = 0; b < 10; b++) {
            add(x, texts[b]);
            for (boolean frost : new boolean[] {false, true}) {
                x.frost(frost);
                due(b + 1 + " BRIDGES, FROST " + frost, x.digest(), digestBy(x, none, ""));
            }
        }
        for (int i = 0; i < 6; i++) {
            x.note(notes[i][0], notes[i][1], notes[i][2], notes[i][3]);
            due(i + 1 + " NOTES", x.digest(), digestBy(x, Arrays.copyOf(notes, i + 1), ""));
        }
        String page = "";
        for (int code : new int[] {1, 126, 'a', ':', 'b', ',', '1', '/', '1', '+', '0', 'w', '9', ' ', '~', '=', '*', 2, 125, 'z'}) {
            page += (char) code;
            x.letters(code);
            due(page.length() + " letters", x.digest(), digestBy(x, notes, page));
        }
        due("it changes nothing", x.digest(), x.digest());
    }

    public static void main(String[] args) {
        note();
        sixNotes();
        lostArguments();
        lostMinutes();
        lostByNotes();
        lostByFarNotes();
        worth();
        image();
        imageKeeps();
        goneBridgesLeaveNoWay();
        count();
        digest();
        finish();
    }
}
