/** Each promise of the document by hand: ordinary inputs, the edges it names, and wrong inputs. */
public final class PromisesTest extends Asking {
    private static void newObject() {
        NineBridges x = new NineBridges();
        for (int what = 0; what <= 4; what++) due(1, "count(" + what + ")", x.count(what), 0);
        due(1, "fault()", x.fault(), 0);
        due(1, "joins", x.joins(0, 0), UNKNOWN);
        due(1, "soonest", x.soonest(0, 1, 0, 1, 1), NONE);
        due(1, "cut", x.cut(3, 0, 400), 400);
        due(1, "restore()", x.restore(), STATE);
        due(1, "again()", x.again(), 1);
        due(1, "frost", x.frost(false), 0);
    }

    private static void constants() {
        due(1, "NONE", NineBridges.NONE, NONE);
        due(1, "UNKNOWN", NineBridges.UNKNOWN, UNKNOWN);
        due(1, "OUTSIDE", NineBridges.OUTSIDE, OUTSIDE);
        due(1, "STATE", NineBridges.STATE, STATE);
        due(1, "FULL", NineBridges.FULL, FULL);
    }

    private static void letters() {
        NineBridges x = new NineBridges();
        due(2, "nothing", x.letters(0), 0);
        due(2, "one", x.letters('a'), 1);
        due(2, "eight", x.letters(packed("bcdefghi")), 9);
        due(2, "126", x.letters(126), 10);
        due(2, "127", x.letters(127), OUTSIDE);
        due(2, "255", x.letters(255), OUTSIDE);
        due(2, "behind a 0", x.letters(0x610061L), OUTSIDE);
        due(2, "a 0 first", x.letters(0x6100L), OUTSIDE);
        due(2, "highest byte", x.letters(0x8061616161616161L), OUTSIDE);
        due(2, "-1", x.letters(-1), OUTSIDE);
        due(2, "highest of good ones", x.letters(0x7e61616161616161L), 18);
        due(2, "above 20", x.letters(packed("abc")), FULL);
        due(2, "OUTSIDE ahead of FULL", x.letters(0x7f616161L), OUTSIDE);
        due(2, "refusals change nothing", x.count(3), 18);
        due(2, "just 20", x.letters(packed("ab")), 20);
        due(2, "21", x.letters(1), FULL);
        due(2, "none into a full one", x.letters(0), 20);
    }

    private static void blank() {
        NineBridges x = new NineBridges();
        due(3, "empty", x.blank(), 0);
        write(x, "a:b");
        due(3, "three", x.blank(), 3);
        due(3, "gone", x.blank(), 0);
        due(3, "count", x.count(3), 0);
    }

    private static void faultIs(String text, int place) {
        NineBridges x = new NineBridges();
        write(x, text);
        due(4, "fault() of " + text, x.fault(), place);
        due(4, "page stays", x.count(3), text.length());
    }

    private static void fault() {
        for (String whole : new String[] {"~h:abc,9/9+9w9", "a:b,1/1+0", "=a:bcd,1/1+0w1", "*c:ab,2/3+4"}) {
            for (int i = 0; i <= whole.length(); i++) faultIs(whole.substring(0, i), i);
            faultIs(whole + (whole.indexOf('w') < 0 ? "x" : "w"), whole.length());
        }
        faultIs("i:b,1/1+0", 0);
        faultIs("A", 0);
        faultIs("+a", 0);
        faultIs("**a", 1);
        faultIs("~i", 1);
        faultIs("ab", 1);
        faultIs("a:,1", 2);
        faultIs("a:a", 2);
        faultIs("a:ba", 3);
        faultIs("a:bb", 3);
        faultIs("a:bcdb", 5);
        faultIs("a:bcde", 5);
        faultIs("a:bi", 3);
        faultIs("a:b:1", 3);
        faultIs("a:b,0/1+0", 4);
        faultIs("a:b,11/1+0", 5);
        faultIs("a:b,1/0+0", 6);
        faultIs("a:b,1/1-0", 7);
        faultIs("a:b,1/1+a", 8);
        faultIs("a:b,1/1+00", 9);
        faultIs("a:b,1/1+0w0", 10);
        faultIs("a:b,1/1+0w11", 11);
        faultIs("a:b,:/1+0", 4);
        faultIs("a:b,1/1+:", 8);
    }

    private static void bridge() {
        NineBridges x = new NineBridges();
        due(5, "empty page", x.bridge(), STATE);
        write(x, "a:b,1/1+");
        due(5, "a beginning", x.bridge(), STATE);
        due(5, "it stays", x.count(3), 8);
        x.letters('0');
        due(5, "whole", x.bridge(), 0);
        due(5, "page empty", x.count(3), 0);
        write(x, "a:b,1/1+0w");
        due(5, "w alone", x.bridge(), STATE);
        x.letters('4');
        due(5, "with w", x.bridge(), 1);
        due(5, "bears", x.about(1, 6), 4);
        for (int b = 2; b < 10; b++) {
            write(x, "=h:g,9/9+9");
            due(5, "number", x.bridge(), b);
        }
        write(x, "a:b,1/1+0");
        due(5, "eleventh", x.bridge(), FULL);
        due(5, "page stays", x.count(3), 9);
        x.letters('x');
        due(5, "STATE ahead of FULL", x.bridge(), STATE);
        due(5, "ten", x.count(0), 10);
    }

    private static void as() {
        NineBridges x = with("a:b,1/1+0", "*a:b,1/1+0", "~a:b,1/1+0", "=a:b,1/1+0");
        int[][] is = {{1, 0, 0, 0}, {1, 1, 0, 0}, {1, 1, 1, 0}, {1, 0, 0, 1}};
        for (int b = 0; b < 4; b++) {
            for (int kind = 0; kind < 4; kind++) due(6, b + " as " + kind, x.as(b, kind), is[b][kind] == 1 ? b : NONE);
        }
        due(6, "kind 4", x.as(0, 4), OUTSIDE);
        due(6, "kind -1", x.as(0, -1), OUTSIDE);
        due(6, "bridge 4", x.as(4, 0), UNKNOWN);
        due(6, "UNKNOWN ahead of OUTSIDE", x.as(-1, 9), UNKNOWN);
    }

    private static void about() {
        NineBridges x = with("~h:abc,9/8+7w6", "b:a,2/3+4", "*c:de,1/5+0", "=d:fg,3/4+5w1", "~a:b,2/3+0", "~a:bc,2/3+0");
        int[] want = {2, 7, 3, 9, 8, 7, 6, 68};
        for (int what = 0; what <= 7; what++) due(7, "about(0, " + what + ")", x.about(0, what), want[what]);
        for (int i = 0; i < 3; i++) due(7, "end " + i, x.about(0, 10 + i), i);
        int[] second = {0, 1, 1, 2, 3, 4, 9, 5};
        for (int what = 0; what <= 7; what++) due(7, "about(1, " + what + ")", x.about(1, what), second[what]);
        due(7, "no second end", x.about(1, 11), NONE);
        due(7, "no third end", x.about(1, 12), NONE);
        due(7, "round of a frosty", x.about(2, 7), 12);
        due(7, "round of a fixed", x.about(3, 7), 1);
        due(7, "second end of a fixed", x.about(3, 11), 6);
        due(7, "round of a swinging of one end", x.about(4, 7), 5);
        due(7, "round of a swinging of two", x.about(5, 7), 10);
        x.frost(true);
        int[] inFrost = {100, 5, 22, 1, 8, 16};
        for (int b = 0; b < 6; b++) due(7, "round in frost " + b, x.about(b, 7), inFrost[b]);
        due(7, "TURN is as told", x.about(0, 4), 8);
        for (int what : new int[] {-1, 8, 9, 13, LOW, HIGH}) due(7, "what " + what, x.about(0, what), OUTSIDE);
        for (int b : new int[] {-1, 6, LOW, HIGH}) due(7, "bridge " + b, x.about(b, 99), UNKNOWN);
    }

    private static void offset() {
        NineBridges x = with("a:b,1/1+3", "=a:b,1/1+4");
        due(8, "to 9", x.offset(0, 9), 3);
        due(8, "to 0", x.offset(0, 0), 9);
        due(8, "10", x.offset(0, 10), OUTSIDE);
        due(8, "-1", x.offset(0, -1), OUTSIDE);
        due(8, "stays", x.about(0, 5), 0);
        due(8, "of a fixed", x.offset(1, 7), 4);
        due(8, "it is", x.about(1, 5), 7);
        due(8, "UNKNOWN", x.offset(2, 10), UNKNOWN);
        due(8, "joins by it", x.joins(0, 0), 1);
        x.offset(0, 1);
        due(8, "joins by another one", x.joins(0, 0), NONE);
    }

    private static void frost() {
        NineBridges x = new NineBridges();
        due(9, "at first", x.frost(true), 0);
        due(9, "again", x.frost(true), 1);
        due(9, "count", x.count(1), 1);
        due(9, "off", x.frost(false), 1);
        due(9, "off again", x.frost(false), 0);
    }

    private static void joins() {
        NineBridges x = with("a:bc,3/1+0", "~a:bcd,1/1+0", "*a:b,2/1+1", "=a:cb,1/1+5", "a:b,2/2+9");
        int[] plain = {1, 1, 1, NONE, 2, 2, 2, NONE, 1};
        int[] left = {3, 2, 1, 0, 3, 2, 1, 0, 3};
        for (int t = 0; t < plain.length; t++) {
            due(10, "plain in " + t, x.joins(0, t), plain[t]);
            due(11, "plain in " + t, x.lasts(0, t), left[t]);
        }
        int[] swing = {1, NONE, 2, NONE, 3, NONE, 2, NONE, 1, NONE, 2};
        for (int t = 0; t < swing.length; t++) due(10, "swinging in " + t, x.joins(1, t), swing[t]);
        int[] frosty = {1, NONE, 1, 1, NONE, 1};
        for (int t = 0; t < frosty.length; t++) due(10, "frosty in " + t, x.joins(2, t), frosty[t]);
        due(10, "fixed", x.joins(3, 9999), 2);
        due(10, "offset above the round", x.joins(4, 0), 1);
        due(10, "and one more", x.joins(4, 1), NONE);
        due(10, "9999", x.joins(0, 9999), NONE);
        due(10, "10000", x.joins(0, 10000), OUTSIDE);
        due(10, "-1", x.joins(0, -1), OUTSIDE);
        due(10, "UNKNOWN", x.joins(5, -1), UNKNOWN);
        x.frost(true);
        int[] inFrost = {1, NONE, NONE, 1, 1, NONE};
        for (int t = 0; t < inFrost.length; t++) due(10, "in frost " + t, x.joins(2, t), inFrost[t]);
        int[] swingInFrost = {1, NONE, NONE, 2, NONE, NONE, 3, NONE, NONE, 2, NONE, NONE, 1};
        for (int t = 0; t < swingInFrost.length; t++) due(10, "swinging in frost " + t, x.joins(1, t), swingInFrost[t]);
        due(10, "plain minds no frost", x.joins(0, 4), 2);
    }

    private static void lasts() {
        NineBridges x = with("a:bc,3/1+0", "=a:b,1/1+0", "~a:b,4/1+2");
        due(11, "for ever", x.lasts(1, 9999), 999);
        due(11, "with an offset", x.lasts(2, 0), 2);
        due(11, "it turns", x.lasts(2, 2), 0);
        due(11, "9998", x.lasts(0, 9998), 1);
        due(11, "10000", x.lasts(0, 10000), OUTSIDE);
        due(11, "-1", x.lasts(1, -1), OUTSIDE);
        due(11, "UNKNOWN", x.lasts(3, 0), UNKNOWN);
    }

    private static void soonest() {
        NineBridges x = with("a:bc,3/1+0", "=c:d,1/1+0w3");
        due(12, "at once", x.soonest(0, 1, 0, 1, 1), 1);
        due(12, "with the last minute", x.soonest(0, 1, 2, 1, 1), 3);
        due(12, "pace 3 fits", x.soonest(0, 1, 0, 3, 1), 3);
        due(12, "pace 3 is too late", x.soonest(0, 1, 1, 3, 1), 11);
        due(12, "pace 4 never fits", x.soonest(0, 1, 0, 4, 1), NONE);
        due(12, "two bridges", x.soonest(0, 3, 0, 1, 3), 6);
        due(12, "back", x.soonest(3, 0, 0, 2, 3), 6);
        due(12, "over the pivot", x.soonest(1, 2, 0, 1, 1), 5);
        due(12, "too heavy", x.soonest(0, 3, 0, 1, 4), NONE);
        due(12, "it is there", x.soonest(7, 7, 999, 9, 9), 999);
        due(12, "minute 999", x.soonest(2, 3, 999, 9, 1), 1008);
        due(12, "minute 1000", x.soonest(0, 0, 1000, 1, 1), OUTSIDE);
        due(12, "minute -1", x.soonest(0, 0, -1, 1, 1), OUTSIDE);
        due(12, "pace 0", x.soonest(0, 0, 0, 0, 1), OUTSIDE);
        due(12, "pace 10", x.soonest(0, 0, 0, 10, 1), OUTSIDE);
        due(12, "weight 0", x.soonest(0, 0, 0, 1, 0), OUTSIDE);
        due(12, "weight 10", x.soonest(0, 0, 0, 1, 10), OUTSIDE);
        due(12, "islet 8", x.soonest(8, 0, -1, 1, 1), UNKNOWN);
        due(12, "islet -1", x.soonest(0, -1, 0, 1, 10), UNKNOWN);
        NineBridges slow = slowOne();
        due(12, "400 later", slow.soonest(0, 4, 38, 9, 1), 438);
        due(12, "401 later", slow.soonest(0, 4, 37, 9, 1), NONE);
    }

    /** From a to e by pace 9 nobody comes sooner than 438, who starts in minute 37. */
    private static NineBridges slowOne() {
        NineBridges x = with("~h:fad,9/9+3", "~b:cgd,9/9+0", "~c:egb,9/9+3");
        x.frost(true);
        return x;
    }

    private static void last() {
        NineBridges x = with("a:bc,3/1+0", "=c:d,1/1+0w3");
        due(13, "by 10", x.last(0, 1, 0, 10, 1, 1), 9);
        due(13, "by 8", x.last(0, 1, 0, 8, 1, 1), 2);
        due(13, "by 3, pace 3", x.last(0, 1, 0, 3, 3, 1), 0);
        due(13, "by 3, pace 3, from 1", x.last(0, 1, 1, 3, 3, 1), NONE);
        due(13, "two bridges", x.last(0, 3, 0, 20, 2, 1), 13);
        due(13, "it is there", x.last(5, 5, 3, 77, 1, 1), 77);
        due(13, "no time at all", x.last(2, 3, 5, 5, 1, 1), NONE);
        due(13, "one minute", x.last(2, 3, 5, 6, 1, 1), 5);
        due(13, "much later", x.last(2, 3, 0, 999, 1, 1), 998);
        due(13, "too heavy", x.last(2, 3, 0, 999, 1, 4), NONE);
        due(13, "above 400 later", slowOne().last(0, 4, 37, 438, 9, 1), 132);
        due(13, "a minute less", slowOne().last(0, 4, 37, 437, 9, 1), NONE);
        due(13, "by ahead", x.last(0, 1, 5, 4, 1, 1), OUTSIDE);
        due(13, "by 1000", x.last(0, 1, 5, 1000, 1, 1), OUTSIDE);
        due(13, "minute -1", x.last(0, 1, -1, 5, 1, 1), OUTSIDE);
        due(13, "minute 1000", x.last(0, 1, 1000, 1000, 1, 1), OUTSIDE);
        due(13, "pace", x.last(0, 1, 0, 5, 10, 1), OUTSIDE);
        due(13, "weight", x.last(0, 1, 0, 5, 1, 0), OUTSIDE);
        due(13, "from", x.last(-1, 1, 5, 4, 0, 0), UNKNOWN);
        due(13, "to", x.last(0, 8, 5, 4, 0, 0), UNKNOWN);
    }

    private static void again() {
        NineBridges x = with("a:bc,3/1+0", "*a:b,2/3+0", "=a:b,9/9+0", "~a:bcd,1/2+0");
        due(14, "8, 5, 1, 12", x.again(), 120);
        x.frost(true);
        due(14, "8, 8, 1, 20", x.again(), 40);
        NineBridges large = with("~a:bcd,7/9+0", "~a:bcd,1/9+0", "~a:bcd,5/9+0", "~a:bcd,5/4+0", "~a:bcd,3/4+0",
            "*a:bcd,9/9+0", "*a:b,8/4+0", "*a:b,7/9+0", "*a:b,7/8+0", "*a:b,9/8+0");
        large.frost(true);
        due(14, "above an int", large.again(), lcm(100, 76, 92, 52, 44, 81, 16, 25, 23, 25));
    }

    private static long lcm(long... rounds) {
        long n = 1;
        for (long r : rounds) {
            long a = n, b = r;
            while (b != 0) { long c = a % b; a = b; b = c; }
            n = n / a * r;
        }
        return n;
    }

    private static void cut() {
        NineBridges x = with("a:bc,3/1+0", "*b:d,1/1+0");
        due(15, "pivot", x.cut(0, 0, 8), 2);
        due(15, "end", x.cut(2, 0, 8), 5);
        due(15, "two bridges", x.cut(1, 0, 8), 3);
        due(15, "from 3 on", x.cut(2, 3, 2), 1);
        due(15, "one minute, joined", x.cut(0, 0, 1), 0);
        due(15, "one minute, not", x.cut(0, 3, 1), 1);
        NineBridges ahead = with("a:b,2/3+1");
        due(15, "by its offset", ahead.cut(1, 0, 4), 3);
        due(15, "no bridge", x.cut(7, 999, 400), 400);
        due(15, "0 minutes", x.cut(0, 0, 0), OUTSIDE);
        due(15, "401 minutes", x.cut(0, 0, 401), OUTSIDE);
        due(15, "minute 1000", x.cut(0, 1000, 1), OUTSIDE);
        due(15, "minute -1", x.cut(0, -1, 1), OUTSIDE);
        due(15, "islet 8", x.cut(8, -1, 0), UNKNOWN);
        due(15, "islet -1", x.cut(-1, 0, 1), UNKNOWN);
    }

    private static void worstAndMean() {
        NineBridges x = with("a:bc,3/1+0", "=c:d,1/1+0w3");
        due(16, "one start", x.worst(0, 1, 1, 1, 1), 1);
        due(16, "three", x.worst(0, 1, 3, 1, 1), 1);
        due(16, "four", x.worst(0, 1, 4, 1, 1), 6);
        due(16, "sixty", x.worst(0, 1, 60, 3, 1), 10);
        due(16, "it is there", x.worst(6, 6, 60, 9, 9), 0);
        due(16, "never", x.worst(0, 7, 60, 1, 1), NONE);
        due(16, "too heavy", x.worst(0, 3, 60, 1, 4), NONE);
        due(16, "one of them is NONE", slowOne().worst(0, 4, 60, 9, 1), NONE);
        due(16, "0", x.worst(0, 1, 0, 1, 1), OUTSIDE);
        due(16, "61", x.worst(0, 1, 61, 1, 1), OUTSIDE);
        due(16, "pace", x.worst(0, 1, 1, 0, 1), OUTSIDE);
        due(16, "weight", x.worst(0, 1, 1, 1, 10), OUTSIDE);
        due(16, "from", x.worst(8, 1, 0, 1, 1), UNKNOWN);
        due(16, "to", x.worst(0, -1, 0, 1, 1), UNKNOWN);

        // starts 0 to 7 wait 1, 1, 1, 6, 5, 4, 3, 2: 23 in all
        due(17, "above", x.mean(0, 1, 8, 1, 1, 0), 23);
        due(17, "below", x.mean(0, 1, 8, 1, 1, 1), 8);
        due(17, "lowest terms, above", x.mean(0, 1, 6, 1, 1, 0), 3);
        due(17, "lowest terms, below", x.mean(0, 1, 6, 1, 1, 1), 1);
        due(17, "nought above", x.mean(6, 6, 60, 1, 1, 0), 0);
        due(17, "nought below", x.mean(6, 6, 60, 1, 1, 1), 1);
        due(17, "never, above", x.mean(0, 7, 8, 1, 1, 0), NONE);
        due(17, "never, below", x.mean(0, 7, 8, 1, 1, 1), NONE);
        due(17, "part 2", x.mean(0, 1, 8, 1, 1, 2), OUTSIDE);
        due(17, "part -1", x.mean(0, 1, 8, 1, 1, -1), OUTSIDE);
        due(17, "many", x.mean(0, 1, 61, 1, 1, 0), OUTSIDE);
        due(17, "pace", x.mean(0, 1, 8, 10, 1, 0), OUTSIDE);
        due(17, "weight", x.mean(0, 1, 8, 1, 0, 0), OUTSIDE);
        due(17, "from", x.mean(-1, 1, 0, 1, 1, 5), UNKNOWN);
        due(17, "to", x.mean(0, 8, 0, 1, 1, 5), UNKNOWN);
    }

    /** From f to e by pace 9 whoever starts ahead of minute 60 is there in minute 400. */
    private static void slowWaits() {
        NineBridges x = with("~g:dhc,9/9+9", "~b:fac,9/9+1", "~d:egh,9/8+9");
        x.frost(true);
        due(16, "400, one start", x.worst(5, 4, 1, 9, 1), 400);
        due(16, "400, sixty", x.worst(5, 4, 60, 9, 1), 400);
        due(17, "above, of 400 down to 341", x.mean(5, 4, 60, 9, 1, 0), 741);
        due(17, "below", x.mean(5, 4, 60, 9, 1, 1), 2);
        due(17, "one start", x.mean(5, 4, 1, 9, 1, 0), 400);
        x.offset(2, 8);
        due(12, "there in 401", x.last(5, 4, 1, 401, 9, 1) >= 1 ? 1 : 0, 1);
        due(12, "not in 400", x.last(5, 4, 0, 400, 9, 1), NONE);
        due(16, "401, one start", x.worst(5, 4, 1, 9, 1), NONE);
        due(16, "401, sixty", x.worst(5, 4, 60, 9, 1), NONE);
        due(17, "401", x.mean(5, 4, 60, 9, 1, 0), NONE);
    }

    private static void set() {
        // b and d are joined in each sixth minute, so one had best leave a in the minute ahead of it
        NineBridges x = with("b:ac,1/2+7", "b:d,1/5+0", "=e:f,1/1+0");
        int best = NONE, least = 2000;
        for (int v = 0; v <= 9; v++) {
            x.offset(0, v);
            int w = x.worst(0, 3, 60, 1, 1);
            if (w < least) { least = w; best = v; }
        }
        x.offset(0, 7);
        due(18, "the best by hand", x.set(0, 0, 3), best);
        due(18, "one minute ahead", best, 1);
        due(18, "it changes nothing", x.about(0, 5), 7);
        // the other way round: d to b arrives in 1 of 6, so a is best then, which is offset 5
        due(18, "back", x.set(0, 3, 0), 5);
        NineBridges weak = with("=a:b,1/1+0w1", "b:c,1/9+0w1");
        due(18, "all like 10", weak.set(1, 0, 2), 0);
        NineBridges late = with("a:b,1/9+0", "b:c,1/9+0");
        // a to b in 0 of 10, so c is best in 1, which is offset 9
        due(18, "offset 9", late.set(1, 0, 2), 9);
        due(18, "all alike", x.set(1, 0, 0), 0);
        due(18, "all NONE", x.set(1, 0, 7), 0);
        due(18, "fixed", x.set(2, 0, 1), STATE);
        due(18, "bridge", x.set(3, 0, 1), UNKNOWN);
        due(18, "from", x.set(2, 8, 1), UNKNOWN);
        due(18, "to", x.set(2, 0, -1), UNKNOWN);
    }

    private static void crowd() {
        NineBridges x = with("a:bc,3/1+0", "=c:d,1/1+0w3");
        due(19, "8 minutes", x.crowd(0, 1, 0, 8, 1, 1), 3);
        due(19, "9 minutes", x.crowd(0, 1, 0, 9, 1, 1), 4);
        due(19, "pace 2", x.crowd(0, 1, 0, 8, 2, 1), 2);
        due(19, "pace 4", x.crowd(0, 1, 0, 60, 4, 1), 0);
        due(19, "two bridges", x.crowd(0, 3, 0, 8, 1, 1), 3);
        due(19, "just late", x.crowd(0, 3, 0, 7, 1, 1), 2);
        due(19, "too heavy", x.crowd(0, 3, 0, 60, 1, 4), 0);
        due(19, "no minute", x.crowd(0, 1, 0, 0, 1, 1), 0);
        due(19, "from 999 on", x.crowd(2, 3, 999, 1059, 9, 1), 52);
        NineBridges two = with("=a:b,1/1+0", "=b:a,1/1+0", "=b:c,1/1+0", "=a:c,1/1+0");
        due(19, "side by side", two.crowd(0, 1, 0, 10, 1, 1), 29);
        // b to d opens in minute 2, c to d in minute 1, each once: two come over, one by each
        NineBridges turn = with("=a:b,1/1+0", "a:c,1/9+0", "b:c,1/9+9", "b:d,1/9+8", "c:d,1/9+9");
        due(19, "not in each other's way", turn.crowd(0, 3, 0, 9, 1, 1), 2);
        due(19, "the same", x.crowd(0, 0, 0, 5, 1, 1), STATE);
        due(19, "OUTSIDE ahead of STATE", x.crowd(0, 0, 0, 61, 1, 1), OUTSIDE);
        due(19, "by ahead", x.crowd(0, 1, 5, 4, 1, 1), OUTSIDE);
        due(19, "by far off", x.crowd(0, 1, 5, 66, 1, 1), OUTSIDE);
        due(19, "minute", x.crowd(0, 1, 1000, 1001, 1, 1), OUTSIDE);
        due(19, "highest", x.crowd(0, 1, HIGH, LOW, 1, 1), OUTSIDE);
        due(19, "pace", x.crowd(0, 1, 0, 1, 0, 1), OUTSIDE);
        due(19, "weight", x.crowd(0, 1, 0, 1, 1, 0), OUTSIDE);
        due(19, "from", x.crowd(8, 8, 0, 99, 1, 1), UNKNOWN);
        due(19, "to", x.crowd(0, -1, 0, 99, 1, 1), UNKNOWN);
    }

    private static void stranded() {
        NineBridges x = with("a:bc,3/1+0", "=c:de,1/1+0");
        due(20, "stuck at b", x.stranded(0, 0, 0), 0b11111100);
        due(20, "stuck at c", x.stranded(0, 1, 0), 0b11110010);
        due(20, "a fixed at its first", x.stranded(1, 0, 0), 0b11110000);
        due(20, "a fixed at its second", x.stranded(1, 1, 0), 0b11101000);
        due(20, "from one alone", x.stranded(0, 0, 7), 0b01111111);
        NineBridges weak = with("a:bc,1/1+0w1", "b:d,1/1+0w1");
        due(20, "pace and weight 1", weak.stranded(0, 0, 0), 0b11110100);
        due(20, "it changes nothing", x.joins(0, 4), 2);
        due(20, "end 2", x.stranded(0, 2, 0), OUTSIDE);
        due(20, "end -1", x.stranded(0, -1, 0), OUTSIDE);
        due(20, "bridge", x.stranded(2, 0, 0), UNKNOWN);
        due(20, "from ahead of end", x.stranded(0, 9, 8), UNKNOWN);
    }

    private static void meeting() {
        NineBridges x = with("=a:b,1/1+0", "=b:c,1/1+0", "=c:d,1/1+0w3", "=e:f,1/1+0");
        due(21, "in the middle", x.meeting(0, 2, 10, 2, 1, 0), 1);
        due(21, "when", x.meeting(0, 2, 10, 2, 1, 1), 12);
        due(21, "the least of two", x.meeting(3, 0, 0, 1, 1, 0), 1);
        due(21, "when of two", x.meeting(3, 0, 0, 1, 1, 1), 2);
        due(21, "the first of all", x.meeting(0, 0, 0, 1, 1, 0), 0);
        due(21, "already", x.meeting(6, 6, 999, 1, 1, 0), 6);
        due(21, "now", x.meeting(6, 6, 999, 1, 1, 1), 999);
        due(21, "nowhere", x.meeting(0, 4, 0, 1, 1, 0), NONE);
        due(21, "never", x.meeting(0, 4, 0, 1, 1, 1), NONE);
        due(21, "too heavy", x.meeting(0, 3, 0, 1, 4, 1), NONE);
        due(21, "what 2", x.meeting(0, 2, 0, 1, 1, 2), OUTSIDE);
        due(21, "what -1", x.meeting(0, 2, 0, 1, 1, -1), OUTSIDE);
        due(21, "minute", x.meeting(0, 2, 1000, 1, 1, 0), OUTSIDE);
        due(21, "pace", x.meeting(0, 2, 0, 10, 1, 0), OUTSIDE);
        due(21, "weight", x.meeting(0, 2, 0, 1, 0, 0), OUTSIDE);
        due(21, "a", x.meeting(8, 2, 0, 1, 1, 7), UNKNOWN);
        due(21, "b", x.meeting(0, -1, 0, 1, 1, 7), UNKNOWN);
    }

    private static void note() {
        NineBridges x = new NineBridges();
        due(22, "first", x.note(0, 0, 1, 0), 1);
        due(22, "second", x.note(7, 99, 0, 499), 2);
        due(22, "to the same", x.note(3, 5, 3, 6), 3);
        due(22, "minute 100", x.note(0, 100, 1, 100), OUTSIDE);
        due(22, "minute -1", x.note(0, -1, 1, 0), OUTSIDE);
        due(22, "there ahead", x.note(0, 5, 1, 4), OUTSIDE);
        due(22, "there far off", x.note(0, 5, 1, 406), OUTSIDE);
        due(22, "from", x.note(8, 100, 1, 0), UNKNOWN);
        due(22, "to", x.note(0, 100, -1, 0), UNKNOWN);
        for (int i = 4; i <= 6; i++) due(22, "note " + i, x.note(0, 0, 1, 400), i);
        due(22, "seventh", x.note(0, 0, 1, 1), FULL);
        due(22, "OUTSIDE ahead of FULL", x.note(0, 0, 1, 401), OUTSIDE);
        due(22, "six", x.count(2), 6);
        due(23, "six", x.forget(), 6);
        due(23, "none", x.forget(), 0);
        due(23, "count", x.count(2), 0);
        due(23, "room again", x.note(0, 0, 1, 1), 1);
    }

    private static void lost() {
        NineBridges x = with("a:bc,3/2+1", "=c:d,1/1+0w3", "*e:f,1/1+0");
        due(24, "no notes", x.lost(0), 1023);
        due(24, "no notes, fixed", x.lost(1), 1);
        // b is joined in positions 0 to 2 of 10; from minute 0 to b in 1: position 1 - d is 0, 1 or 2.
        x.note(0, 0, 1, 1);
        due(24, "at once", x.lost(0), 1 << 0 | 1 << 1 | 1 << 9);
        // from minute 2: b in 6, so that minute 5 is the first one, in position 0
        x.forget();
        x.note(0, 2, 1, 6);
        due(24, "a wait", x.lost(0), 1 << 6);
        // by 6 it is in position 5 in minute 0, where c begins
        x.note(0, 0, 2, 1);
        due(24, "two notes", x.lost(0), 1 << 6);
        x.note(0, 0, 2, 2);
        due(24, "against each other", x.lost(0), 0);
        x.forget();
        x.note(2, 5, 3, 6);
        due(24, "of a fixed one", x.lost(1), 1);
        x.note(2, 5, 3, 7);
        due(24, "of a fixed one, wrong", x.lost(1), 0);
        x.forget();
        x.note(4, 0, 5, 1);
        due(24, "round of 2: every second one", x.lost(2), 0b0101010101);
        due(24, "another one's note holds", x.lost(0), 1023);
        x.frost(true);
        due(24, "round of 3: every third one", x.lost(2), 0b1001001001);
        x.forget();
        x.note(6, 4, 6, 4);
        due(24, "there already", x.lost(2), 1023);
        x.note(6, 4, 6, 5);
        due(24, "but not later", x.lost(2), 0);
        due(24, "UNKNOWN", x.lost(3), UNKNOWN);
        due(24, "UNKNOWN below", x.lost(-1), UNKNOWN);
        due(24, "it changes nothing", x.about(0, 5), 1);
    }

    private static void worth() {
        NineBridges x = with("=a:b,1/1+0", "=b:c,1/1+0w2", "=a:c,1/1+0w1");
        due(25, "one that another can stand for", x.worth(2, 1, 1), 2);
        due(25, "pace 3", x.worth(2, 3, 1), 6);
        due(25, "it bears nothing so heavy", x.worth(2, 1, 2), 0);
        due(25, "no other way", x.worth(0, 1, 2), 2 * 999 + 2 * 998);
        due(25, "from minute 0 on", with("a:b,1/9+0").worth(0, 1, 1), 2 * 999);
        due(25, "pace 0", x.worth(0, 0, 1), OUTSIDE);
        due(25, "pace 10", x.worth(0, 10, 1), OUTSIDE);
        due(25, "weight 0", x.worth(0, 1, 0), OUTSIDE);
        due(25, "weight 10", x.worth(0, 1, 10), OUTSIDE);
        due(25, "UNKNOWN", x.worth(3, 0, 1), UNKNOWN);
        due(25, "it changes nothing", x.soonest(0, 2, 0, 1, 1), 1);
    }

    private static void imageAndRestore() {
        NineBridges x = with("a:b,1/1+3", "*a:c,1/1+4");
        due(27, "none kept", x.restore(), STATE);
        x.note(0, 0, 1, 1);
        x.frost(true);
        due(26, "kept", x.image(), 2);
        x.offset(0, 9);
        x.frost(false);
        x.note(0, 0, 1, 2);
        write(x, "=d:e,1/1+0");
        due(26, "a bridge since", x.bridge(), 2);
        write(x, "a:");
        due(27, "restored", x.restore(), 2);
        due(27, "offset", x.about(0, 5), 3);
        due(27, "frost", x.count(1), 1);
        due(27, "notes", x.count(2), 1);
        due(27, "gone", x.about(2, 0), UNKNOWN);
        due(27, "THE PAGE is not in it", x.count(3), 2);
        x.forget();
        x.offset(1, 0);
        due(27, "again", x.restore(), 2);
        due(27, "notes again", x.count(2), 1);
        due(27, "offset again", x.about(1, 5), 4);
        x.blank();
        write(x, "=d:e,1/1+7");
        due(27, "the number is free again", x.bridge(), 2);
        due(26, "the latest", x.image(), 3);
        x.offset(2, 1);
        due(27, "from the latest", x.restore(), 3);
        due(27, "its offset", x.about(2, 5), 7);
        NineBridges y = new NineBridges();
        due(26, "of nothing", y.image(), 0);
        write(y, "=d:e,1/1+7");
        y.bridge();
        due(27, "to nothing", y.restore(), 0);
        due(27, "the one since is gone", y.count(0), 0);
    }

    private static void count() {
        NineBridges x = with("a:b,1/1+3", "*a:c,1/1+4", "~a:c,1/1+4", "=a:c,1/1+4");
        x.frost(true);
        x.note(0, 0, 1, 1);
        x.note(0, 0, 1, 1);
        write(x, "hello");
        int[] want = {4, 1, 2, 5, 3};
        for (int what = 0; what <= 4; what++) due(28, "count(" + what + ")", x.count(what), want[what]);
        for (int what : new int[] {-1, 5, LOW, HIGH}) due(28, "count(" + what + ")", x.count(what), OUTSIDE);
    }

    private static void digest() {
        due(29, "of nothing", new NineBridges().digest(), digestOf(1, 0, 60, -1, 60, -1, 60, -1, 60, -1, 60, -1, 60, -1, 60, -1, 60, 0, 0, 0, 0, 0));
        NineBridges x = with("*a:bc,2/1+1w5");
        x.note(0, 3, 1, 9);
        write(x, "a:");
        // from minute 0 on: b, turning, c, c, turning, b
        due(29, "of one", x.digest(), digestOf(
            1, 0, 2, 2, 1, 1, 5, 6, 1, 2, -1, 1, 1, -1, 0,
            6,
            0, 20, 1, 40, 3, 40, -1, 60, -1, 60, -1, 60, -1, 60, -1, 60,
            0, 3, 1, 9,
            'a', ':',
            1, 0, 1, 2, 1));
    }

    public static void main(String[] args) {
        newObject();
        constants();
        letters();
        blank();
        fault();
        bridge();
        as();
        about();
        offset();
        frost();
        joins();
        lasts();
        soonest();
        last();
        again();
        cut();
        worstAndMean();
        slowWaits();
        set();
        crowd();
        stranded();
        meeting();
        note();
        lost();
        worth();
        imageAndRestore();
        count();
        digest();
        finish();
    }
}
