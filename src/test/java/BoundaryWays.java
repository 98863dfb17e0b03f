/** Promises 12 to 21 at their bounds: ways, waits, crowds and meetings. */
public final class BoundaryWays extends Asking {
    private static final String[] CHAIN = {"=a:b,1/1+0", "=b:c,1/1+0", "=c:d,1/1+0", "=d:e,1/1+0", "=e:f,1/1+0", "=f:g,1/1+0", "=g:h,1/1+0w8"};

    /** By PACE 9 whoever starts from a in minutes 25 to 132 is at e in minute 438; its ROUNDS are 108. */
    private static NineBridges slow() {
        return inFrost("~h:fad,9/9+3", "~b:cgd,9/9+0", "~c:egb,9/9+3");
    }

    /** By PACE 9 whoever starts from a by minute 54 is at h in minute 384; who starts later comes above 400 later. */
    private static NineBridges missedIn55() {
        return inFrost("~c:bfa,9/9+0", "~b:gfc,9/9+0", "~e:gdh,9/9+3");
    }

    /** From a to d in minutes 50 to 58 only, of 108: who starts in minute 59 is the first who misses it. */
    private static NineBridges missedIn59() {
        return inFrost("~a:bcd,9/9+4");
    }

    /** By PACE 5 from a to h: whoever starts by minute 58 is there in 281 less v, who starts in 59 in 465 less v (v: 5 or 6). */
    private static NineBridges missedIn59Far(int v) {
        return inFrost("~d:cfg,9/9+2", "~g:dfa,9/9+0", "~e:hbc,9/7+" + v);
    }

    /** By PACE 1 from a to b the longest of 60 starts is 402 by the OFFSETS 0 to 8 of the first one, 401 by its OFFSET 9. */
    private static NineBridges waits401() {
        return inFrost("~g:fb,6/8+3", "~e:adh,9/9+0", "~f:bgc,8/9+6", "~h:edc,9/9+8");
    }

    /** By PACE 1 from a to b the longest of 60 starts is 402 by the OFFSETS 0 to 7 of the first one, 401 by 8, 400 by 9. */
    private static NineBridges waits400() {
        return inFrost("~g:bf,8/9+2", "~e:adh,9/9+1", "~f:bgc,8/9+7", "~h:edc,9/9+9");
    }

    /** By PACE 1 from a to b the longest of 60 starts is 403 by the OFFSET 0 of the first one, 195 and v by each other v. */
    private static NineBridges waits403Once() {
        return inFrost("~e:adh,9/9+7", "~f:bgc,8/9+5", "~h:edc,9/9+8");
    }

    private static void soonest() {
        sentence("SOONEST; NONE. UNKNOWN: from, to; OUTSIDE.");
        NineBridges x = with(CHAIN);
        range(x, "from", 0, 7, UNKNOWN, from -> x.soonest(from, 0, 0, 1, 1));
        range(x, "to", 0, 7, UNKNOWN, to -> x.soonest(0, to, 0, 1, 1));
        range(x, "minute", 0, 999, OUTSIDE, t -> x.soonest(0, 1, t, 1, 1));
        range(x, "pace", 1, 9, OUTSIDE, pace -> x.soonest(0, 1, 0, pace, 1));
        range(x, "weight", 1, 9, OUTSIDE, weight -> x.soonest(0, 1, 0, 1, weight));
        range(x, "minute, though it is there", 0, 999, OUTSIDE, t -> x.soonest(3, 3, t, 1, 1));
        due("the longest way by the slowest, from 999 on", x.soonest(0, 7, 999, 9, 8), 999 + 63);
        due("back", x.soonest(7, 0, 999, 9, 8), 999 + 63);
        due("too heavy for the last one", x.soonest(0, 7, 0, 1, 9), NONE);
        sentence("from a minute (0 to 999) on: the first minute in which it can be there (that minute, if it is there); NONE, if it is above 400 minutes later.");
        NineBridges none = new NineBridges();
        for (int t : new int[] {0, 1, 998, 999}) {
            due("no BRIDGES, it is there in " + t, none.soonest(7, 7, t, 9, 9), t);
            due("no BRIDGES, another ISLET, in " + t, none.soonest(7, 0, t, 1, 1), NONE);
        }
        for (int round = 0; round <= 8; round++) {
            int t = 38 + 108 * round;
            due("400 later, from " + t, slow().soonest(0, 4, t, 9, 1), t + 400);
            due("399 later, from " + (t + 1), slow().soonest(0, 4, t + 1, 9, 1), t + 400);
            due("401 later, from " + (t - 1), slow().soonest(0, 4, t - 1, 9, 1), NONE);
        }
        NineBridges turning = with("a:b,1/9+0");
        due("the minute itself", turning.soonest(0, 1, 990, 1, 1), 991);
        due("the last minute ahead of a ROUND", turning.soonest(0, 1, 999, 1, 1), 1001);
        due("the first one behind", turning.soonest(0, 1, 991, 1, 1), 1001);
    }

    private static void last() {
        sentence("LAST; NONE: it can't, even at that minute. UNKNOWN; OUTSIDE: minute, by (0 to 999, not ahead of minute), pace, weight.");
        NineBridges x = with(CHAIN);
        range(x, "from", 0, 7, UNKNOWN, from -> x.last(from, 0, 0, 99, 1, 1));
        range(x, "to", 0, 7, UNKNOWN, to -> x.last(0, to, 0, 99, 1, 1));
        range(x, "minute", 0, 999, OUTSIDE, t -> x.last(0, 1, t, 999, 1, 1));
        range(x, "minute, not behind by", 0, 500, OUTSIDE, t -> x.last(0, 1, t, 500, 1, 1));
        range(x, "by", 0, 999, OUTSIDE, by -> x.last(0, 1, 0, by, 1, 1));
        range(x, "by, not ahead of minute", 500, 999, OUTSIDE, by -> x.last(0, 1, 500, by, 1, 1));
        range(x, "by, when minute is the last", 999, 999, OUTSIDE, by -> x.last(0, 0, 999, by, 1, 1));
        range(x, "pace", 1, 9, OUTSIDE, pace -> x.last(0, 1, 0, 99, pace, 1));
        range(x, "weight", 1, 9, OUTSIDE, weight -> x.last(0, 1, 0, 99, 1, weight));
        due("it is there, no time", x.last(5, 5, 0, 0, 1, 1), 0);
        due("it is there, no time, at the end", x.last(5, 5, 999, 999, 9, 9), 999);
        due("it is there, all time", x.last(5, 5, 0, 999, 9, 9), 999);
        due("no time for a way", x.last(0, 1, 0, 0, 1, 1), NONE);
        due("a minute too little", x.last(0, 1, 100, 108, 9, 1), NONE);
        due("just enough", x.last(0, 1, 100, 109, 9, 1), 100);
        due("a minute more", x.last(0, 1, 100, 110, 9, 1), 101);
        due("back, a minute too little", x.last(1, 0, 100, 108, 9, 1), NONE);
        due("back, just enough", x.last(1, 0, 100, 109, 9, 1), 100);
        due("back, a minute more", x.last(1, 0, 100, 110, 9, 1), 101);
        due("the longest way", x.last(0, 7, 0, 999, 9, 8), 936);
        due("the longest way, just", x.last(0, 7, 936, 999, 9, 8), 936);
        due("the longest way, not", x.last(0, 7, 937, 999, 9, 8), NONE);
        due("too heavy", x.last(0, 7, 0, 999, 1, 9), NONE);
        due("no BRIDGES", new NineBridges().last(0, 1, 0, 999, 1, 1), NONE);
        due("no BRIDGES, it is there", new NineBridges().last(1, 1, 0, 999, 1, 1), 999);
        NineBridges turning = with("a:b,1/9+0");
        due("at that minute", turning.last(0, 1, 10, 20, 1, 1), 10);
        due("the next ROUND is too late", turning.last(0, 1, 11, 20, 1, 1), NONE);
        due("just in it", turning.last(0, 1, 11, 21, 1, 1), 20);
        due("the end of all", turning.last(0, 1, 0, 999, 1, 1), 990);
        // between a and b one begins in minutes 0, 10 and so on, over the others in every minute
        NineBridges two = with("a:b,1/9+0", "=a:c,1/1+0", "=d:a,1/1+0", "=b:e,1/1+0", "=f:b,1/1+0");
        int[][] fromAndTo = {{1, 2}, {1, 3}, {0, 4}, {0, 5}, {2, 1}, {3, 1}, {4, 0}, {5, 0}};
        for (int[] way : fromAndTo) {
            int onFrom = way[0] > 1 ? 1 : 0;
            due("two, from " + way[0] + " to " + way[1] + ", by 12", two.last(way[0], way[1], 0, 12 - onFrom, 1, 1), 10 - onFrom);
            due("two, a minute less", two.last(way[0], way[1], 0, 11 - onFrom, 1, 1), onFrom == 1 ? NONE : 0);
        }
        sentence("LAST: the latest minute from one on, in which it can start and still be there by another one (however much later that is).");
        due("413 later", slow().last(0, 4, 25, 438, 9, 1), 132);
        due("a minute less", slow().last(0, 4, 25, 437, 9, 1), NONE);
        due("a start ahead of it", slow().last(0, 4, 24, 437, 9, 1), 24);
        due("SOONEST of the same", slow().soonest(0, 4, 25, 9, 1), NONE);
        due("400 later", slow().last(0, 4, 38, 438, 9, 1), 132);
    }

    private static void again() {
        sentence("AGAIN (1: there are no BRIDGES).");
        due("no BRIDGES", new NineBridges().again(), 1);
        due("no BRIDGES in FROST", inFrost().again(), 1);
        due("ten FIXED ones", with(times(10, "=a:b,9/9+9")).again(), 1);
        sentence("AGAIN: behind how many minutes all BRIDGES are first as in minute 0 again (ROUNDS together).");
        due("the shortest", with("a:b,1/1+0").again(), 2);
        due("ten alike", with(times(10, "a:b,1/1+0")).again(), 2);
        due("one in the other", with("a:b,1/1+0", "a:b,9/9+0").again(), 18);
        due("whatever the OFFSETS", with("a:b,1/1+9", "a:b,1/2+8").again(), 6);
        NineBridges most = with("~a:bcd,8/4+0", "*a:bcd,9/9+0", "*a:b,9/8+0", "*a:b,5/1+0", "*a:b,9/1+0", "*a:b,9/2+0", "*a:b,9/4+0",
            "*a:b,9/5+0", "*a:b,9/7+0", "=a:b,1/1+0");
        due("without FROST: 48, 54, 17, 6, 10, 11, 13, 14, 16, 1", most.again(), 16L * 27 * 17 * 5 * 11 * 13 * 7);
        most.frost(true);
        due("in FROST: 64, 81, 25, 7, 11, 13, 17, 19, 23, 1: the most there can be", most.again(), 963761198400L);
        NineBridges x = with("a:bc,2/1+4", "*b:d,1/1+7", "~a:fgh,1/2+1");
        int n = (int) x.again();
        due("6, 2 and 12", n, 12);
        for (int b = 0; b < 3; b++) for (int t = 0; t < 100; t++) due("as " + n + " minutes ahead", x.joins(b, t + n), x.joins(b, t));
    }

    private static void cut() {
        sentence("CUT OFF. UNKNOWN; OUTSIDE: minute, many.");
        NineBridges x = with("a:b,1/1+0w1");
        range(x, "islet", 0, 7, UNKNOWN, i -> x.cut(i, 0, 1));
        range(x, "minute", 0, 999, OUTSIDE, t -> x.cut(0, t, 1));
        range(x, "many", 1, 400, OUTSIDE, many -> x.cut(0, 0, many));
        sentence("CUT OFF: in how many of the minutes from one on, so many (1 to 400), no BRIDGE joins an ISLET.");
        for (int islet = 0; islet < 2; islet++) {
            due("one minute, joined", x.cut(islet, 0, 1), 0);
            due("one minute, not", x.cut(islet, 1, 1), 1);
            due("two minutes", x.cut(islet, 0, 2), 1);
            due("399 from 0 on", x.cut(islet, 0, 399), 199);
            due("399 from 1 on", x.cut(islet, 1, 399), 200);
            due("400", x.cut(islet, 0, 400), 200);
            due("one from 999 on", x.cut(islet, 999, 1), 1);
            due("400 from 999 on", x.cut(islet, 999, 400), 200);
            due("399 from 999 on", x.cut(islet, 999, 399), 200);
        }
        due("no BRIDGE there", x.cut(2, 999, 400), 400);
        for (int islet = 0; islet < 8; islet++) due("no BRIDGES", new NineBridges().cut(islet, 0, 400), 400);
        NineBridges fixed = with("=a:bc,9/9+9w1");
        due("a FIXED one, its PIVOT", fixed.cut(0, 0, 400), 0);
        due("its first END", fixed.cut(1, 999, 400), 0);
        due("its second END", fixed.cut(2, 0, 400), 400);
        NineBridges ten = with(times(10, "a:b,1/9+0"));
        for (int b = 0; b < 10; b++) ten.offset(b, b);
        due("ten, each in its minute", ten.cut(0, 0, 400), 0);
        ten.offset(9, 8);
        due("one of them like another", ten.cut(0, 0, 400), 40);
        NineBridges three = with("a:bcd,1/1+5");
        due("PIVOT", three.cut(0, 0, 6), 3);
        for (int end = 1; end <= 3; end++) due("END " + end, three.cut(end, 0, 6), 5);
        for (int t = 0; t < 6; t++) due("the first END in minute " + t, three.cut(1, t, 1), t == 1 ? 0 : 1);
    }

    private static void worst() {
        sentence("WORST; NONE. UNKNOWN; OUTSIDE: many (1 to 60), pace, weight.");
        NineBridges x = with(CHAIN);
        range(x, "from", 0, 7, UNKNOWN, from -> x.worst(from, 0, 1, 1, 1));
        range(x, "to", 0, 7, UNKNOWN, to -> x.worst(0, to, 1, 1, 1));
        range(x, "many", 1, 60, OUTSIDE, many -> x.worst(0, 1, many, 1, 1));
        range(x, "pace", 1, 9, OUTSIDE, pace -> x.worst(0, 1, 1, pace, 1));
        range(x, "weight", 1, 9, OUTSIDE, weight -> x.worst(0, 1, 1, 1, weight));
        due("it is there", x.worst(4, 4, 60, 9, 9), 0);
        due("the longest way", x.worst(0, 7, 60, 9, 8), 63);
        due("too heavy", x.worst(0, 7, 1, 1, 9), NONE);
        due("no BRIDGES", new NineBridges().worst(0, 1, 1, 1, 1), NONE);
        due("no BRIDGES, it is there", new NineBridges().worst(1, 1, 60, 1, 1), 0);
        sentence("WORST: over all minutes from 0 on, so many (1 to 60), as a start, the longest from start to SOONEST; MEAN likewise; NONE, if one of them is NONE.");
        due("minute 0 alone", missedIn59().worst(0, 3, 1, 1, 1), 51);
        due("59: minute 59 is not in it", missedIn59().worst(0, 3, 59, 1, 1), 51);
        due("60: minute 59 is", missedIn59().worst(0, 3, 60, 1, 1), 100);
        due("minute 59 itself", missedIn59().soonest(0, 3, 59, 1, 1), 159);
        due("59: 275 later at most", missedIn59Far(6).worst(0, 7, 59, 5, 1), 275);
        due("60: minute 59 is 400 ahead", missedIn59Far(6).worst(0, 7, 60, 5, 1), 400);
        due("59: 276 later at most", missedIn59Far(5).worst(0, 7, 59, 5, 1), 276);
        due("60: minute 59 is 401 ahead", missedIn59Far(5).worst(0, 7, 60, 5, 1), NONE);
        due("54 is not NONE", missedIn55().soonest(0, 7, 54, 9, 1), 384);
        due("55 is NONE", missedIn55().soonest(0, 7, 55, 9, 1), NONE);
        due("0 to 54", missedIn55().worst(0, 7, 55, 9, 1), 384);
        due("0 to 55", missedIn55().worst(0, 7, 56, 9, 1), NONE);
        due("0 to 59", missedIn55().worst(0, 7, 60, 9, 1), NONE);
        NineBridges just = inFrost("~g:dhc,9/9+9", "~b:fac,9/9+1", "~d:egh,9/8+9");
        due("400, from minute 0 alone", just.worst(5, 4, 1, 9, 1), 400);
        due("400 down to 341", just.worst(5, 4, 60, 9, 1), 400);
        just.offset(2, 8);
        due("there in minute 401", just.soonest(5, 4, 1, 9, 1), 401);
        due("401, from minute 0 alone", just.worst(5, 4, 1, 9, 1), NONE);
        due("401 and 400", just.worst(5, 4, 2, 9, 1), NONE);
        due("401 down to 342", just.worst(5, 4, 60, 9, 1), NONE);
    }

    private static void mean() {
        sentence("MEAN, in lowest terms: part 0 above, 1 below (NONE, both). UNKNOWN; OUTSIDE.");
        NineBridges x = with(CHAIN);
        range(x, "from", 0, 7, UNKNOWN, from -> x.mean(from, 0, 1, 1, 1, 0));
        range(x, "to", 0, 7, UNKNOWN, to -> x.mean(0, to, 1, 1, 1, 0));
        range(x, "many", 1, 60, OUTSIDE, many -> x.mean(0, 1, many, 1, 1, 0));
        range(x, "pace", 1, 9, OUTSIDE, pace -> x.mean(0, 1, 1, pace, 1, 0));
        range(x, "weight", 1, 9, OUTSIDE, weight -> x.mean(0, 1, 1, 1, weight, 0));
        range(x, "part", 0, 1, OUTSIDE, part -> x.mean(0, 1, 1, 1, 1, part));
        range(x, "part, though NONE", 0, 1, OUTSIDE, part -> x.mean(0, 7, 1, 1, 9, part));
        meanIs("it is there", x.mean(4, 4, 60, 9, 9, 0), x.mean(4, 4, 60, 9, 9, 1), 0, 1);
        meanIs("it is there, one start", x.mean(4, 4, 1, 9, 9, 0), x.mean(4, 4, 1, 9, 9, 1), 0, 1);
        meanIs("a whole number", x.mean(0, 7, 60, 9, 8, 0), x.mean(0, 7, 60, 9, 8, 1), 63, 1);
        meanIs("too heavy", x.mean(0, 7, 1, 1, 9, 0), x.mean(0, 7, 1, 1, 9, 1), NONE, NONE);
        NineBridges none = new NineBridges();
        meanIs("no BRIDGES", none.mean(0, 1, 60, 1, 1, 0), none.mean(0, 1, 60, 1, 1, 1), NONE, NONE);
        NineBridges y = missedIn59();
        meanIs("one start", y.mean(0, 3, 1, 1, 1, 0), y.mean(0, 3, 1, 1, 1, 1), 51, 1);
        meanIs("51 and 50", y.mean(0, 3, 2, 1, 1, 0), y.mean(0, 3, 2, 1, 1, 1), 101, 2);
        // 51 down to 1, then 1 eight times more: 1334; with the one of minute 59 1434
        meanIs("59 starts", y.mean(0, 3, 59, 1, 1, 0), y.mean(0, 3, 59, 1, 1, 1), 1334, 59);
        meanIs("60 starts", y.mean(0, 3, 60, 1, 1, 0), y.mean(0, 3, 60, 1, 1, 1), 239, 10);
        NineBridges far = missedIn59Far(6), tooFar = missedIn59Far(5);
        meanIs("275 down to 217", far.mean(0, 7, 59, 5, 1, 0), far.mean(0, 7, 59, 5, 1, 1), 246, 1);
        meanIs("275 down to 217, and 400", far.mean(0, 7, 60, 5, 1, 0), far.mean(0, 7, 60, 5, 1, 1), 7457, 30);
        meanIs("276 down to 218", tooFar.mean(0, 7, 59, 5, 1, 0), tooFar.mean(0, 7, 59, 5, 1, 1), 247, 1);
        meanIs("276 down to 218, and 401", tooFar.mean(0, 7, 60, 5, 1, 0), tooFar.mean(0, 7, 60, 5, 1, 1), NONE, NONE);
        NineBridges z = missedIn55();
        meanIs("384 down to 330", z.mean(0, 7, 55, 9, 1, 0), z.mean(0, 7, 55, 9, 1, 1), 357, 1);
        meanIs("one more is NONE", z.mean(0, 7, 56, 9, 1, 0), z.mean(0, 7, 56, 9, 1, 1), NONE, NONE);
        NineBridges just = inFrost("~g:dhc,9/9+9", "~b:fac,9/9+1", "~d:egh,9/8+9");
        meanIs("400 alone", just.mean(5, 4, 1, 9, 1, 0), just.mean(5, 4, 1, 9, 1, 1), 400, 1);
        meanIs("400 down to 341", just.mean(5, 4, 60, 9, 1, 0), just.mean(5, 4, 60, 9, 1, 1), 741, 2);
        just.offset(2, 8);
        meanIs("401 alone", just.mean(5, 4, 1, 9, 1, 0), just.mean(5, 4, 1, 9, 1, 1), NONE, NONE);
        meanIs("401 down to 342", just.mean(5, 4, 60, 9, 1, 0), just.mean(5, 4, 60, 9, 1, 1), NONE, NONE);
    }

    private static void meanIs(String what, int above, int below, int wantAbove, int wantBelow) {
        due(what + ", above", above, wantAbove);
        due(what + ", below", below, wantBelow);
    }

    private static void set() {
        sentence("SET (PACE 1, WEIGHT 1). UNKNOWN: bridge, from, to; STATE: it is FIXED.");
        NineBridges x = with("a:b,1/9+3w1", "=a:c,1/1+5");
        refused(x, "FIXED", STATE, () -> x.set(1, 0, 1));
        refused(x, "FIXED, and it is there", STATE, () -> x.set(1, 0, 0));
        for (int b : new int[] {-1, 2, LOW, HIGH}) refused(x, "bridge " + b, UNKNOWN, () -> x.set(b, 0, 1));
        range(x, "from", 0, 7, UNKNOWN, from -> x.set(0, from, 1));
        range(x, "to", 0, 7, UNKNOWN, to -> x.set(0, 0, to));
        for (int i : new int[] {-1, 8}) {
            refused(x, "UNKNOWN ahead of STATE, from", UNKNOWN, () -> x.set(1, i, 1));
            refused(x, "UNKNOWN ahead of STATE, to", UNKNOWN, () -> x.set(1, 0, i));
        }
        due("a stand of one minute that bears 1 is enough, all alike", x.set(0, 0, 1), 0);
        due("it changes nothing", x.about(0, 5), 3);
        sentence("SET: the OFFSET (0 to 9) of a BRIDGE by which WORST of 60 minutes is least, of like ones the least (NONE counts as 1000).");
        // by OFFSET v d is joined from minute 54 - v to 62 - v: the one who misses it starts in minute 63 - v
        NineBridges y = missedIn59();
        for (int own = 0; own <= 9; own++) {
            y.offset(0, own);
            due("minute 60 is not in it, 59 is, by own OFFSET " + own, y.set(0, 0, 3), 3);
        }
        due("no way: NONE by each", y.set(0, 0, 4), 0);
        due("it is there", y.set(0, 2, 2), 0);
        due("by another BRIDGE at once", with("=a:b,1/1+0", "a:b,1/9+9").set(1, 0, 1), 0);
        // a and b in minute 0 of 10, so b and c had best be joined v ahead of it, in minute 1
        due("the last OFFSET", with("a:b,1/9+0", "b:c,1/9+0").set(1, 0, 2), 9);
        due("the last OFFSET, where they bear 1", with("a:b,1/9+0w1", "b:c,1/9+0w1").set(1, 0, 2), 9);
        due("the first OFFSET", with("a:b,1/9+1", "b:c,1/9+9").set(1, 0, 2), 0);
        for (int v = 0; v <= 9; v++) due("each OFFSET, " + v, with("a:b,1/9+" + (v + 1) % 10, "b:c,1/9+5").set(1, 0, 2), v);
        due("of 1 and 6 in a ROUND of 5", with("a:b,1/9+2", "b:c,1/4+0").set(1, 0, 2), 1);
    }

    /** The longest way of 60 starts by PACE 1, however long it is: LAST knows no 400 minutes. */
    private static int longestByLast(NineBridges x, int from, int to) {
        int longest = 0;
        for (int t = 0; t < 60; t++) {
            int by = t;
            while (by < 999 && x.last(from, to, t, by, 1, 1) == NONE) by++;
            longest = Math.max(longest, by - t);
        }
        return longest;
    }

    private static void longestAre(NineBridges x, int... want) {
        for (int v = 0; v <= 9; v++) {
            x.offset(0, v);
            due("the longest by OFFSET " + v, longestByLast(x, 0, 1), want[v]);
            due("WORST by OFFSET " + v, x.worst(0, 1, 60, 1, 1), want[v] > 400 ? NONE : want[v]);
        }
    }

    private static void setByFarWays() {
        sentence("SET: the OFFSET (0 to 9) of a BRIDGE by which WORST of 60 minutes is least, of like ones the least (NONE counts as 1000).");
        longestAre(waits401(), 402, 402, 402, 402, 402, 402, 402, 402, 402, 401);
        longestAre(waits400(), 402, 402, 402, 402, 402, 402, 402, 402, 401, 400);
        longestAre(waits403Once(), 403, 196, 197, 198, 199, 200, 201, 202, 203, 204);
        due("401 is NONE, as 402 is: all alike", waits401().set(0, 0, 1), 0);
        due("400 is none such: it is the least", waits400().set(0, 0, 1), 9);
        due("NONE is more than each other one", waits403Once().set(0, 0, 1), 1);
    }

    private static void crowd() {
        sentence("CROWD. UNKNOWN; OUTSIDE: minute, by (minute to 60 more), pace, weight; STATE: from and to are the same.");
        NineBridges x = with(CHAIN);
        for (int i : new int[] {-1, 8, LOW, HIGH}) {
            refused(x, "from " + i, UNKNOWN, () -> x.crowd(i, 1, 0, 9, 1, 1));
            refused(x, "to " + i, UNKNOWN, () -> x.crowd(0, i, 0, 9, 1, 1));
            refused(x, "both " + i, UNKNOWN, () -> x.crowd(i, i, 0, 9, 1, 1));
        }
        for (int i = 0; i < 8; i++) {
            int islet = i;
            refused(x, "the same " + i, STATE, () -> x.crowd(islet, islet, 0, 9, 1, 1));
            if (i > 0) due("to " + i, x.crowd(0, i, 0, i, 1, 1), 1);
            if (i < 7) due("from " + i, x.crowd(i, 7, 0, 7 - i, 1, 1), 1);
        }
        range(x, "minute", 0, 999, OUTSIDE, t -> x.crowd(0, 1, t, Math.max(0, Math.min(1000, t)), 1, 1));
        for (int t : new int[] {0, 1, 500, 998, 999}) range(x, "by, from " + t, t, t + 60, OUTSIDE, by -> x.crowd(0, 1, t, by, 1, 1));
        range(x, "pace", 1, 9, OUTSIDE, pace -> x.crowd(0, 1, 0, 9, pace, 1));
        range(x, "weight", 1, 9, OUTSIDE, weight -> x.crowd(0, 1, 0, 9, 1, weight));
        refused(x, "OUTSIDE ahead of STATE: minute", OUTSIDE, () -> x.crowd(3, 3, 1000, 1000, 1, 1));
        refused(x, "OUTSIDE ahead of STATE: by", OUTSIDE, () -> x.crowd(3, 3, 0, 61, 1, 1));
        refused(x, "OUTSIDE ahead of STATE: pace", OUTSIDE, () -> x.crowd(3, 3, 0, 1, 0, 1));
        refused(x, "OUTSIDE ahead of STATE: weight", OUTSIDE, () -> x.crowd(3, 3, 0, 1, 1, 10));
    }

    private static void crowdsThatCome() {
        sentence("CROWD: how many CARRIERS alike can be there by a minute (60 later at most), if they all start in one ISLET at a minute, and over each BRIDGE at most one begins to go in a minute (either way).");
        NineBridges x = with(CHAIN);
        for (int pace = 1; pace <= 9; pace++) {
            due("no time, PACE " + pace, x.crowd(0, 1, 999, 999, pace, 1), 0);
            due("a minute too little, PACE " + pace, x.crowd(0, 1, 999, 998 + pace, pace, 1), 0);
            due("just one, PACE " + pace, x.crowd(0, 1, 999, 999 + pace, pace, 1), 1);
            due("one a minute, PACE " + pace, x.crowd(0, 1, 999, 1059, pace, 1), 61 - pace);
            due("ten BRIDGES, PACE " + pace, with(times(10, "=a:b,1/1+0")).crowd(1, 0, 0, 60, pace, 1), 10 * (61 - pace));
            due("seven one behind the other, PACE " + pace, x.crowd(0, 7, 0, 60, pace, 8), Math.max(0, 61 - 7 * pace));
        }
        due("too heavy", x.crowd(0, 7, 0, 60, 1, 9), 0);
        due("no BRIDGES", new NineBridges().crowd(0, 7, 0, 60, 1, 1), 0);
        NineBridges turning = with("a:b,1/9+0");
        due("the next ROUND is too late", turning.crowd(0, 1, 991, 1000, 1, 1), 0);
        due("just in it", turning.crowd(0, 1, 991, 1001, 1, 1), 1);
        due("from 1000 to 1050", turning.crowd(0, 1, 999, 1059, 1, 1), 6);
        due("1050 is in it", turning.crowd(0, 1, 999, 1051, 1, 1), 6);
        due("1050 is too late", turning.crowd(0, 1, 999, 1050, 1, 1), 5);
        due("from 990 to 1040", turning.crowd(0, 1, 990, 1050, 1, 1), 6);
        due("990 is gone", turning.crowd(0, 1, 991, 1050, 1, 1), 5);
        due("a STAND of 9 by PACE 9", with("a:b,9/1+0").crowd(0, 1, 0, 60, 9, 1), 6);
        due("a STAND of 8 by PACE 9", with("a:b,8/1+0").crowd(0, 1, 0, 60, 9, 1), 0);
        due("all wait for the one way on", with("a:b,5/9+0", "b:c,1/4+1").crowd(0, 2, 0, 15, 1, 1), 3);
        // from a in 1, 2, 3, 6, 7, 8, so at e in 3, 4, 5, 8, 9, 10; from there on in 3, 5, 6 and 9
        NineBridges late = with("=d:e,3/3+9", "e:c,3/1+3", "d:a,3/2+9");
        due("each minute is for one alone", late.crowd(0, 2, 0, 10, 1, 1), 4);
        due("the last one is a minute late", late.crowd(0, 2, 0, 9, 1, 1), 3);
    }

    private static void stranded() {
        sentence("STRANDED, as bits of ISLETS (PACE 1, WEIGHT 1). UNKNOWN: bridge, from; OUTSIDE: end.");
        NineBridges x = with("a:b,1/1+0", "*a:bc,1/1+0", "~a:bcd,1/1+0", "=a:bcd,1/1+0", "=e:f,1/1+0w1");
        int[] ends = {1, 2, 3, 3, 1};
        for (int b = 0; b < 5; b++) {
            int number = b;
            range(x, "end of " + b, 0, ends[b] - 1, OUTSIDE, end -> x.stranded(number, end, 0));
            range(x, "from, of " + b, 0, 7, UNKNOWN, from -> x.stranded(number, 0, from));
        }
        range(x, "bridge", 0, 4, UNKNOWN, b -> x.stranded(b, 0, 0));
        refused(x, "UNKNOWN ahead of OUTSIDE: bridge", UNKNOWN, () -> x.stranded(5, 3, 0));
        refused(x, "UNKNOWN ahead of OUTSIDE: from", UNKNOWN, () -> x.stranded(0, 1, 8));
        sentence("STUCK at an END (a number from 0): a BRIDGE joins that always. STRANDED: the ISLETS to which there is no SOONEST way from one from minute 0 on, if a BRIDGE is STUCK so.");
        due("nobody", with(CHAIN).stranded(6, 0, 0), 0);
        due("all but where it is", with("a:b,1/1+0").stranded(0, 0, 7), 0b01111111);
        due("all but the first", with("h:g,1/1+0").stranded(0, 0, 0), 0b11111110);
        due("a way that bears 1, of one minute", x.stranded(0, 0, 4), 0b11001111);
        NineBridges turning = with("~a:bcd,1/9+5", "b:e,1/1+0w1", "d:fgh,1/1+0");
        int[] stuck = {0b11101100, 0b11111010, 0b00010110};
        for (int end = 0; end < 3; end++) {
            NineBridges twin = with("=a:" + (char) ('b' + end) + ",1/1+0", "b:e,1/1+0w1", "d:fgh,1/1+0");
            due("at END " + end, turning.stranded(0, end, 0), stuck[end]);
            for (int from = 0; from < 8; from++) {
                int bits = 0;
                for (int to = 0; to < 8; to++) if (twin.soonest(from, to, 0, 1, 1) == NONE) bits |= 1 << to;
                due("like a FIXED one at END " + end + ", from " + from, turning.stranded(0, end, from), bits);
            }
        }
        due("FIXED, STUCK at its last END", with("=a:bcd,1/1+0").stranded(0, 2, 0), 0b11110110);
        due("it turns on", turning.joins(0, 5), 2);
    }

    private static void meeting() {
        sentence("MEETING: what = 0 the ISLET, 1 when; NONE: nowhere. UNKNOWN; OUTSIDE: minute, pace, weight, what.");
        NineBridges x = with(CHAIN);
        range(x, "a", 0, 7, UNKNOWN, a -> x.meeting(a, 0, 0, 1, 1, 0));
        range(x, "b", 0, 7, UNKNOWN, b -> x.meeting(0, b, 0, 1, 1, 0));
        range(x, "minute", 0, 999, OUTSIDE, t -> x.meeting(0, 1, t, 1, 1, 1));
        range(x, "pace", 1, 9, OUTSIDE, pace -> x.meeting(0, 1, 0, pace, 1, 1));
        range(x, "weight", 1, 9, OUTSIDE, weight -> x.meeting(0, 1, 0, 1, weight, 1));
        range(x, "what", 0, 1, OUTSIDE, what -> x.meeting(0, 1, 0, 1, 1, what));
        range(x, "what, though nowhere", 0, 1, OUTSIDE, what -> x.meeting(0, 7, 0, 1, 9, what));
        due("nowhere", x.meeting(0, 7, 0, 1, 9, 0), NONE);
        due("never", x.meeting(0, 7, 0, 1, 9, 1), NONE);
        NineBridges none = new NineBridges();
        for (int i = 0; i < 8; i++) {
            due("no BRIDGES, both there", none.meeting(i, i, 999, 9, 9, 0), i);
            due("no BRIDGES, at once", none.meeting(i, i, 999, 9, 9, 1), 999);
            due("no BRIDGES, nowhere", none.meeting(i, (i + 1) % 8, 0, 1, 1, 0), NONE);
            due("no BRIDGES, never", none.meeting(i, (i + 1) % 8, 0, 1, 1, 1), NONE);
        }
        sentence("MEETING: of two CARRIERS alike from two ISLETS from a minute on: the ISLET in which both can be soonest, of like ones the least; when.");
        // from a and h over seven BRIDGES: four of one, three of the other, in d or in e
        due("of d and e", x.meeting(0, 7, 999, 9, 8, 0), 3);
        due("when", x.meeting(0, 7, 999, 9, 8, 1), 999 + 36);
        due("the other way round", x.meeting(7, 0, 999, 9, 8, 0), 3);
        NineBridges last = with("=h:a,1/1+0", "=h:b,1/1+0");
        due("in the last ISLET", last.meeting(0, 1, 0, 1, 1, 0), 7);
        NineBridges four = with("=d:a,1/1+0", "=d:b,1/1+0", "=e:a,1/1+0", "=e:b,1/1+0");
        due("in the first of two", four.meeting(3, 4, 0, 1, 1, 0), 0);
        due("one waits for the other", with("=a:b,1/1+0").meeting(0, 1, 5, 1, 1, 0), 0);
        NineBridges turning = with("~a:bcd,2/3+4", "b:ef,1/9+2", "*d:gh,1/1+1");
        for (int a = 0; a < 8; a++) for (int b = 0; b < 8; b++) meetsBySoonest(turning, a, b);
    }

    private static void meetsBySoonest(NineBridges x, int a, int b) {
        int place = NONE, when = NONE;
        for (int i = 0; i < 8; i++) {
            int first = x.soonest(a, i, 17, 1, 1), second = x.soonest(b, i, 17, 1, 1);
            int both = first == NONE || second == NONE ? NONE : Math.max(first, second);
            if (both == NONE || (place != NONE && both >= when)) continue;
            place = i;
            when = both;
        }
        due("place of " + a + " and " + b, x.meeting(a, b, 17, 1, 1, 0), place);
        due("when of " + a + " and " + b, x.meeting(a, b, 17, 1, 1, 1), when);
    }

    public static void main(String[] args) {
        soonest();
        last();
        again();
        cut();
        worst();
        mean();
        set();
        setByFarWays();
        crowd();
        crowdsThatCome();
        stranded();
        meeting();
        finish();
    }
}
