/** The sections "What it is" and "Terms": each sentence that names a bound, at the bound and beyond it. */
public final class BoundaryTerms extends Asking {
    private static void islets() {
        sentence("ISLETS are eight, numbered 0 to 7 (letters a to h).");
        for (int i = 0; i < 8; i++) {
            char letter = (char) ('a' + i), other = i == 0 ? 'b' : 'a';
            due("pivot " + letter, with(letter + ":" + other + ",1/1+0").about(0, 1), i);
            due("end " + letter, with(other + ":" + letter + ",1/1+0").about(0, 10), i);
        }
        for (char letter : new char[] {'`', 'i', '@', 'A', 'H', 'I', '0', 1, 125}) {
            due("pivot of code " + (int) letter, written(letter + ":b,1/1+0").fault(), 0);
            due("end of code " + (int) letter, written("a:" + letter + ",1/1+0").fault(), 2);
        }
        NineBridges all = with("=a:b,1/1+0", "=b:c,1/1+0", "=c:d,1/1+0", "=d:e,1/1+0", "=e:f,1/1+0", "=f:g,1/1+0", "=g:h,1/1+0");
        for (int i = 0; i < 8; i++) due("from a to " + i, all.soonest(0, i, 0, 9, 9), 9 * i);
    }

    private static void fiveHundredAndTwelveCalls() {
        sentence("An object is used for at most 512 calls after it has been made; what later calls answer is free.");
        NineBridges x = new NineBridges();
        int calls = 0;
        for (int b = 0; b < 10; b++) {
            write(x, "~a:bcd,9/9+" + b);
            x.bridge();
            calls += 3;
        }
        long ahead = x.digest();
        calls++;
        int worth = x.worth(0, 1, 1), set = x.set(9, 0, 3), crowd = x.crowd(0, 3, 999, 1059, 1, 1);
        calls += 3;
        while (calls < 508) {
            due("worth, call " + (calls + 1), x.worth(0, 1, 1), worth);
            due("set, call " + (calls + 2), x.set(9, 0, 3), set);
            calls += 2;
        }
        due("crowd, call 509", x.crowd(0, 3, 999, 1059, 1, 1), crowd);
        due("lost, call 510", x.lost(0), 1023);
        due("image, call 511", x.image(), 10);
        due("digest, call 512", x.digest(), ahead);
    }

    private static void tenBridges() {
        sentence("BRIDGES (10 at most, numbered) are texts");
        NineBridges x = new NineBridges();
        due("no bridge 0", x.about(0, 0), UNKNOWN);
        for (int b = 0; b < 10; b++) {
            due("no bridge yet " + b, x.about(b, 0), UNKNOWN);
            add(x, "a:b,1/1+" + b);
            due("count", x.count(0), b + 1);
        }
        for (int b = 0; b < 10; b++) due("each is its own, " + b, x.about(b, 5), b);
        write(x, "a:b,1/1+0");
        refused(x, "the eleventh", FULL, x::bridge);
        due("no bridge 10", x.about(10, 0), UNKNOWN);
        due("no bridge -1", x.about(-1, 0), UNKNOWN);
    }

    private static void lastBridgeWorksLikeTheFirst() {
        sentence("BRIDGES (10 at most, numbered) are texts");
        // nine that bear 1 between c and d, and the tenth, the only one between a and b
        String[] texts = times(10, "=c:d,1/1+0w1");
        texts[9] = "a:b,2/8+0";
        NineBridges x = with(texts);
        due("soonest", x.soonest(0, 1, 1, 1, 9), 2);
        due("last", x.last(0, 1, 0, 20, 1, 1), 11);
        due("again", x.again(), 10);
        due("cut", x.cut(0, 0, 10), 8);
        due("worst", x.worst(0, 1, 60, 1, 1), 9);
        due("crowd", x.crowd(0, 1, 0, 20, 1, 1), 4);
        due("stranded", x.stranded(9, 0, 0), 0b11111100);
        due("meeting", x.meeting(0, 1, 2, 1, 1, 1), 11);
        due("set", x.set(9, 0, 1), 0);
        due("worth", x.worth(9, 1, 1), 2 * 999);
        x.note(0, 0, 1, 5);
        due("lost", x.lost(9), 1 << 4);
        due("joins", x.joins(9, 9991), 1);
        due("lasts", x.lasts(9, 9991), 1);
        due("offset", x.offset(9, 9), 0);
        due("as", x.as(9, 0), 9);
    }

    private static void sign() {
        sentence("Signs tell KINDS: 0 BRIDGE (no sign), 1 FROSTY (\"*\"), 2 SWINGING (\"~\"), 3 FIXED (\"=\").");
        String[] signs = {"", "*", "~", "="};
        for (int kind = 0; kind < 4; kind++) due("sign " + signs[kind], with(signs[kind] + "a:b,1/1+0").about(0, 0), kind);
        sentence("perhaps a sign, the PIVOT (a letter), \":\", one to three ENDS");
        for (String two : new String[] {"**", "*~", "~~", "==", "=*"}) due("signs " + two, written(two + "a:b,1/1+0").fault(), 1);
        for (String other : new String[] {"+", "w", ",", ":", " ", "-", ")", "}", "<", ">"}) due("sign " + other, written(other + "a:b,1/1+0").fault(), 0);
        due("a sign behind the pivot", written("a*:b,1/1+0").fault(), 1);
        due("a sign alone", written("~").bridge(), STATE);
        due("no pivot", written(":b,1/1+0").fault(), 0);
        due("no pivot behind a sign", written("=:b,1/1+0").fault(), 1);
        due("two pivots", written("ab:c,1/1+0").fault(), 1);
        due("no colon", written("a,b,1/1+0").fault(), 1);
        due("two colons", written("a::b,1/1+0").fault(), 2);
    }

    private static void ends() {
        sentence("one to three ENDS (letters, unlike, none the PIVOT)");
        due("no end", written("a:,1/1+0").fault(), 2);
        due("no end", written("a:,1/1+0").bridge(), STATE);
        String ends = "";
        for (int many = 1; many <= 3; many++) {
            ends += (char) ('a' + many);
            due(many + " ends", with("a:" + ends + ",1/1+0").about(0, 2), many);
        }
        due("four ends", written("a:bcde,1/1+0").fault(), 5);
        due("four ends", written("a:bcde,1/1+0").bridge(), STATE);
        due("the second like the first", written("a:bb").fault(), 3);
        due("the third like the first", written("a:bcb").fault(), 4);
        due("the third like the second", written("a:bcc").fault(), 4);
        due("the first like the pivot", written("h:h").fault(), 2);
        due("the second like the pivot", written("h:ah").fault(), 3);
        due("the third like the pivot", written("h:abh").fault(), 4);
        due("in any order", with("d:hag,1/1+0").about(0, 11), 0);
    }

    private static void numberIs(String ahead, String behind, int low, int what) {
        for (int v = low; v <= 9; v++) due(ahead + v + behind, with(ahead + v + behind).about(0, what), v);
        for (String beyond : new String[] {low == 0 ? "/" : "0", ":", "-", "a", " "}) {
            due(ahead + beyond + behind, written(ahead + beyond + behind).fault(), ahead.length());
            due("bridge() of " + ahead + beyond + behind, written(ahead + beyond + behind).bridge(), STATE);
        }
        due("two digits: " + ahead + "10" + behind, written(ahead + "10" + behind).fault(), ahead.length() + 1);
        due("bridge() of two digits", written(ahead + "10" + behind).bridge(), STATE);
        due("no digit: " + ahead + behind, written(ahead + behind).bridge(), STATE);
    }

    private static void numbers() {
        sentence("\",\", STAND (1 to 9), \"/\", TURN (1 to 9), \"+\", OFFSET (0 to 9)");
        numberIs("a:b,", "/1+0", 1, 3);
        numberIs("a:b,1/", "+0", 1, 4);
        numberIs("a:b,1/1+", "", 0, 5);
        sentence("then perhaps \"w\" and BEARS (1 to 9; 9, if it is not told)");
        numberIs("a:b,1/1+0w", "", 1, 6);
        due("not told", with("a:b,1/1+0").about(0, 6), 9);
        due("not told behind one that told it", with("a:b,1/1+0w2", "a:b,1/1+0").about(1, 6), 9);
        due("w and no BEARS", written("a:b,1/1+0w").bridge(), STATE);
        due("W", written("a:b,1/1+0W1").fault(), 9);
        due("the longest text", with("~a:bcd,9/9+9w9").about(0, 6), 9);
        due("one letter more", written("~a:bcd,9/9+9w9w").fault(), 14);
    }

    private static void kinds() {
        sentence("All are BRIDGES; a SWINGING is FROSTY, too.");
        NineBridges x = with("a:b,1/1+0", "*a:b,1/1+0", "~a:b,1/1+0", "=a:b,1/1+0");
        String[] is = {"0", "01", "012", "03"};
        for (int b = 0; b < 4; b++) {
            for (int kind = 0; kind < 4; kind++) {
                boolean such = is[b].indexOf((char) ('0' + kind)) >= 0;
                due("as(" + b + ", " + kind + ")", x.as(b, kind), such ? b : NONE);
            }
        }
    }

    /** In each minute the bridge joins the letter of its round, or turns ('.'); the round is told from minute 0 on. */
    private static void goes(NineBridges x, int b, String round) {
        int n = round.length();
        due("ROUND " + round, x.about(b, 7), n);
        for (int t = 0; t <= 9999; t = t == 3 * n ? 9999 - 3 * n : t + 1) {
            char at = round.charAt(t % n);
            int more = 0;
            while (at != '.' && round.charAt((t + more) % n) == at) more++;
            due("joins in " + t + " of " + round, x.joins(b, t), at == '.' ? NONE : at - 'a');
            due("lasts in " + t + " of " + round, x.lasts(b, t), more);
        }
    }

    private static void rounds() {
        sentence("A BRIDGE of k ENDS goes by its ROUND of PLACES: each END in order;");
        goes(with("a:b,1/1+0"), 0, "b.");
        goes(with("a:b,9/9+0"), 0, "bbbbbbbbb.........");
        goes(with("a:dc,1/9+0"), 0, "d.........c.........");
        goes(with("a:dbc,9/1+0"), 0, "ddddddddd.bbbbbbbbb.ccccccccc.");
        goes(with("*a:dbc,2/1+0"), 0, "dd.bb.cc.");
        sentence("of a SWINGING (k above 1) each in order, then back without the last and the first one.");
        goes(with("~a:b,2/1+0"), 0, "bb.");
        goes(with("~a:cb,2/1+0"), 0, "cc.bb.");
        goes(with("~a:cbd,2/1+0"), 0, "cc.bb.dd.bb.");
        goes(with("~h:abc,1/1+0"), 0, "a.b.c.b.");
    }

    private static void turns() {
        sentence("In each it STANDS for STAND minutes (joins PIVOT and that END), then it turns for TURN minutes (joins nothing; twice as long of a FROSTY and a SWINGING, in FROST).");
        goes(inFrost("a:bc,2/1+0"), 0, "bb.cc.");
        goes(inFrost("*a:bc,2/1+0"), 0, "bb..cc..");
        goes(inFrost("*a:b,1/9+0"), 0, "b..................");
        goes(inFrost("~a:b,2/1+0"), 0, "bb..");
        goes(inFrost("~a:cb,2/1+0"), 0, "cc..bb..");
        goes(inFrost("~a:cbd,1/2+0"), 0, "c....b....d....b....");
        due("the longest ROUND", inFrost("~a:bcd,9/9+0").about(0, 7), 108);
        due("without FROST", with("~a:bcd,9/9+0").about(0, 7), 72);
        due("the shortest ROUND", with("a:b,1/1+0").about(0, 7), 2);
        NineBridges x = inFrost("*a:bc,2/1+0");
        due("TURN itself is as told", x.about(0, 4), 1);
        x.frost(false);
        goes(x, 0, "bb.cc.");
    }

    private static void offsets() {
        sentence("In minute t (from 0 on) it is where it is behind t and OFFSET minutes of that.");
        String round = "bb.";
        for (int v = 0; v <= 9; v++) {
            int by = v % 3;
            goes(with("a:b,2/1+" + v), 0, round.substring(by) + round.substring(0, by));
        }
        goes(with("a:b,1/1+9"), 0, ".b");
        goes(with("~a:bcd,1/1+7"), 0, ".b.c.d.c");
        goes(with("~a:bcd,1/1+8"), 0, "b.c.d.c.");
        goes(with("~a:bcd,1/1+9"), 0, ".c.d.c.b");
        goes(inFrost("*a:bc,1/1+5"), 0, ".b..c.");
        NineBridges x = with("a:bc,1/1+3");
        x.offset(0, 4);
        goes(x, 0, "b.c.");
    }

    private static void fixed() {
        sentence("A FIXED one joins PIVOT and its first END always; its ROUND is 1.");
        for (boolean frost : new boolean[] {false, true}) {
            NineBridges x = with("=a:hbc,1/9+9");
            x.frost(frost);
            due("ROUND", x.about(0, 7), 1);
            for (int t : new int[] {0, 1, 2, 9, 10, 999, 9999}) {
                due("joins in " + t, x.joins(0, t), 7);
                due("lasts in " + t, x.lasts(0, t), 999);
            }
            due("to its first END by the slowest", x.soonest(0, 7, 0, 9, 9), 9);
            due("to its second END", x.soonest(0, 1, 0, 1, 1), NONE);
        }
        sentence("FROST is, or it is not (at first).");
        due("at first", new NineBridges().count(1), 0);
    }

    private static void carrier() {
        sentence("A CARRIER has PACE (1 to 9 minutes) and WEIGHT (1 to 9)");
        NineBridges x = with("=a:b,1/1+0");
        range(x, "soonest, PACE", 1, 9, OUTSIDE, v -> x.soonest(0, 1, 0, v, 9));
        range(x, "soonest, WEIGHT", 1, 9, OUTSIDE, v -> x.soonest(0, 1, 0, 9, v));
        range(x, "last, PACE", 1, 9, OUTSIDE, v -> x.last(0, 1, 0, 9, v, 9));
        range(x, "last, WEIGHT", 1, 9, OUTSIDE, v -> x.last(0, 1, 0, 9, 9, v));
        range(x, "worst, PACE", 1, 9, OUTSIDE, v -> x.worst(0, 1, 60, v, 9));
        range(x, "worst, WEIGHT", 1, 9, OUTSIDE, v -> x.worst(0, 1, 60, 9, v));
        range(x, "mean, PACE", 1, 9, OUTSIDE, v -> x.mean(0, 1, 60, v, 9, 1));
        range(x, "mean, WEIGHT", 1, 9, OUTSIDE, v -> x.mean(0, 1, 60, 9, v, 1));
        range(x, "crowd, PACE", 1, 9, OUTSIDE, v -> x.crowd(0, 1, 0, 60, v, 9));
        range(x, "crowd, WEIGHT", 1, 9, OUTSIDE, v -> x.crowd(0, 1, 0, 60, 9, v));
        range(x, "meeting, PACE", 1, 9, OUTSIDE, v -> x.meeting(0, 1, 0, v, 9, 1));
        range(x, "meeting, WEIGHT", 1, 9, OUTSIDE, v -> x.meeting(0, 1, 0, 9, v, 1));
        range(x, "worth, PACE", 1, 9, OUTSIDE, v -> x.worth(0, v, 9));
        range(x, "worth, WEIGHT", 1, 9, OUTSIDE, v -> x.worth(0, 9, v));
    }

    private static void pace() {
        sentence("it goes over a BRIDGE in minutes t to t and PACE less 1, if it joins the same ISLETS in all of them");
        for (int stand = 1; stand <= 9; stand++) {
            NineBridges x = with("a:b," + stand + "/9+0");
            for (int pace = 1; pace <= 9; pace++) {
                boolean fits = pace <= stand;
                due("STAND " + stand + ", PACE " + pace, x.soonest(0, 1, 0, pace, 1), fits ? pace : NONE);
                if (!fits) continue;
                int lastStart = stand - pace, round = stand + 9;
                due("back in the last minute", x.soonest(1, 0, lastStart, pace, 1), stand);
                due("a minute too late", x.soonest(0, 1, lastStart + 1, pace, 1), round + pace);
            }
        }
        // in minutes 1 and 3 it joins the same, but it turns in 2
        due("over a turn", with("a:b,2/1+0").soonest(0, 1, 1, 3, 1), NONE);
        due("into a turn", with("a:b,2/1+0").soonest(0, 1, 1, 2, 1), 5);
        due("not by two BRIDGES together", with("a:b,1/1+0", "a:b,1/1+1").soonest(0, 1, 0, 2, 1), NONE);
        due("nor from an END to an END", with("a:bc,9/1+0").soonest(1, 2, 0, 9, 1), 19);
    }

    private static void weight() {
        sentence("and BEARS WEIGHT or more; it is across at t and PACE.");
        for (int bears = 1; bears <= 9; bears++) {
            NineBridges x = with("=a:b,1/1+0w" + bears);
            for (int weight = 1; weight <= 9; weight++) {
                due("BEARS " + bears + ", WEIGHT " + weight, x.soonest(0, 1, 7, 2, weight), weight <= bears ? 9 : NONE);
            }
        }
        NineBridges x = with("a:b,2/9+0", "b:c,2/9+9");
        due("on over the next one in the minute of coming", x.soonest(0, 2, 0, 2, 1), 4);
        NineBridges late = with("a:b,2/9+0", "b:c,1/9+9");
        due("not in a minute of the way itself", late.soonest(0, 2, 0, 2, 1), NONE);
        due("but in its turn", late.soonest(0, 2, 0, 1, 1), 2);
        sentence("It may wait in an ISLET as long as it wants.");
        due("a whole ROUND but one minute", inFrost("~a:bcd,1/9+1").soonest(0, 1, 0, 1, 1), 76);
        due("in the middle", with("=a:b,1/1+0", "b:c,1/9+0").soonest(0, 2, 0, 1, 1), 11);
    }

    public static void main(String[] args) {
        islets();
        fiveHundredAndTwelveCalls();
        tenBridges();
        lastBridgeWorksLikeTheFirst();
        sign();
        ends();
        numbers();
        kinds();
        rounds();
        turns();
        offsets();
        fixed();
        carrier();
        pace();
        weight();
        finish();
    }
}
