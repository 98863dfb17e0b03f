/** Promises 1 to 11 at their bounds: THE PAGE, the reading of BRIDGES, and what is told of one. */
public final class BoundaryBridges extends Asking {
    private static final String FULL_PAGE = "~a:bcd,9/9+9w9abcdef";

    private static void newObject() {
        sentence("No BRIDGES, no FROST, no NOTES.");
        NineBridges x = new NineBridges();
        for (int what = 0; what <= 4; what++) due("count(" + what + ")", x.count(what), 0);
        due("blank()", x.blank(), 0);
        due("forget()", x.forget(), 0);
        due("frost(false)", x.frost(false), 0);
        due("restore(): no IMAGE", x.restore(), STATE);
        due("as", x.as(0, 0), UNKNOWN);
        due("offset", x.offset(0, 0), UNKNOWN);
        due("joins", x.joins(0, 0), UNKNOWN);
        due("lasts", x.lasts(0, 0), UNKNOWN);
        due("set", x.set(0, 0, 1), UNKNOWN);
        due("stranded", x.stranded(0, 0, 0), UNKNOWN);
        due("lost", x.lost(0), UNKNOWN);
        due("worth", x.worth(0, 1, 1), UNKNOWN);
        NineBridges full = with(times(10, "*a:b,1/1+0"));
        full.frost(true);
        full.note(0, 0, 1, 1);
        full.image();
        due("another object is as new", new NineBridges().digest(), x.digest());
        due("it has no IMAGE", new NineBridges().restore(), STATE);
    }

    private static void lettersUpToEight() {
        sentence("Letters come behind THE PAGE, up to eight, told by their codes in the bytes of w, the lowest byte first, until a byte that is 0: how many THE PAGE has.");
        for (int many = 0; many <= 8; many++) due(many + " letters", new NineBridges().letters(packed("a:bcd,9/".substring(0, many))), many);
        NineBridges x = new NineBridges();
        x.letters(packed("a:bcd,9/"));
        x.letters(packed("9+9w"));
        x.letters(packed("5"));
        due("they come in order, behind those ahead", x.fault(), 13);
        due("and make a BRIDGE", x.bridge(), 0);
        due("PIVOT", x.about(0, 1), 0);
        due("third END", x.about(0, 12), 3);
        due("BEARS", x.about(0, 6), 5);
        due("none", x.letters(0), 0);
    }

    private static void letterCodes() {
        sentence("OUTSIDE: a byte above 126, or one behind a 0 that is not 0; FULL: above 20.");
        for (int place = 0; place < 8; place++) {
            long ahead = packed("aaaaaaaa".substring(0, place));
            for (int code : new int[] {1, 126}) {
                due("code " + code + " in place " + place, new NineBridges().letters(ahead | (long) code << 8 * place), place + 1);
            }
            for (int code : new int[] {127, 128, 255}) {
                NineBridges x = written("a:");
                refused(x, "code " + code + " in place " + place, OUTSIDE, letters(x, ahead | (long) code << 8 * place));
            }
        }
        for (int nought = 0; nought < 7; nought++) {
            long ahead = packed("aaaaaaaa".substring(0, nought));
            for (int place = nought + 1; place < 8; place++) {
                NineBridges x = written("a:");
                refused(x, "a 0 in " + nought + ", not in " + place, OUTSIDE, letters(x, ahead | 1L << 8 * place));
            }
        }
        for (long w : new long[] {-1, Long.MIN_VALUE, Long.MAX_VALUE}) {
            NineBridges x = written("a:");
            refused(x, "letters(" + w + ")", OUTSIDE, letters(x, w));
        }
    }

    private static Call letters(NineBridges x, long w) {
        return () -> x.letters(w);
    }

    private static void twentyLetters() {
        sentence("OUTSIDE: a byte above 126, or one behind a 0 that is not 0; FULL: above 20.");
        for (int size = 0; size <= 20; size++) {
            for (int more = 0; more <= 8; more++) {
                NineBridges x = written(FULL_PAGE.substring(0, size));
                long w = packed("hhhhhhhh".substring(0, more));
                if (size + more <= 20) due(more + " behind " + size, x.letters(w), size + more);
                else refused(x, more + " behind " + size, FULL, letters(x, w));
            }
        }
        NineBridges x = written(FULL_PAGE);
        refused(x, "OUTSIDE ahead of FULL: 127", OUTSIDE, letters(x, 127));
        refused(x, "OUTSIDE ahead of FULL: behind a 0", OUTSIDE, letters(x, 0x6100L));
    }

    private static void blank() {
        sentence("THE PAGE is empty: how many letters it had.");
        NineBridges x = new NineBridges();
        for (int size : new int[] {0, 1, 19, 20}) {
            write(x, FULL_PAGE.substring(0, size));
            due("of " + size, x.blank(), size);
            due("then", x.count(3), 0);
            due("again", x.blank(), 0);
            due("fault()", x.fault(), 0);
            due("digest()", x.digest(), new NineBridges().digest());
        }
    }

    /** At each place of a text just these letters may stand, behind those ahead of it. */
    private static void mayStand(String text, String... letters) {
        for (int place = 0; place <= text.length(); place++) {
            String may = place < letters.length ? letters[place] : "";
            NineBridges x = new NineBridges();
            for (char code = 1; code <= 126; code++) {
                x.blank();
                write(x, text.substring(0, place) + code);
                boolean is = may.indexOf(code) >= 0;
                due("code " + (int) code + " behind " + text.substring(0, place), x.fault(), is ? place + 1 : place);
            }
        }
    }

    private static void fault() {
        sentence("The place (from 0) of the first letter of THE PAGE that no BRIDGE has there, behind those ahead of it; how many letters it has, if there is none.");
        String nine = "123456789", ten = "0123456789";
        mayStand("~h:abc,9/9+9w9", "abcdefgh*~=", "abcdefgh", ":", "abcdefg", "bcdefg,", "cdefg,", ",", nine, "/", nine, "+", ten, "w", nine);
        mayStand("c:h,1/1+0", "abcdefgh*~=", ":", "abdefgh", "abdefg,", nine, "/", nine, "+", ten, "w");
        due("an empty PAGE", new NineBridges().fault(), 0);
        due("a PAGE of 20", written(FULL_PAGE).fault(), 14);
        due("a PAGE of 20, wrong from the first", written("xxxxxxxxxxxxxxxxxxxx").fault(), 0);
        due("the first of two", written("a:bb,0/1+0").fault(), 3);
        NineBridges x = written("a:bb");
        due("it stays", x.fault() * 100 + x.count(3), 304);
        due("and again", x.fault(), 3);
        NineBridges full = with(times(10, "a:b,1/1+0"));
        write(full, "a:b,1/1+0");
        due("how many BRIDGES there are is no fault", full.fault(), 9);
    }

    private static void bridge() {
        sentence("THE PAGE is read as a BRIDGE: its number; THE PAGE is empty then. STATE: it is none; FULL.");
        String whole = "=d:cba,1/2+3w4";
        for (int size = 0; size <= whole.length(); size++) {
            NineBridges x = written(whole.substring(0, size));
            if (size == 12 || size == 14) due("of " + whole.substring(0, size), x.bridge(), 0);
            else refused(x, "of " + whole.substring(0, size), STATE, x::bridge);
            due("letters left", x.count(3), size == 12 || size == 14 ? 0 : size);
        }
        NineBridges long20 = written(FULL_PAGE);
        refused(long20, "a BRIDGE and more letters", STATE, long20::bridge);
        NineBridges x = with(times(10, "a:b,1/1+0"));
        refused(x, "an empty PAGE, STATE ahead of FULL", STATE, x::bridge);
        write(x, "a:b,1/1+0");
        refused(x, "the eleventh", FULL, x::bridge);
        due("its letters stay", x.count(3), 9);
        x.letters('w');
        refused(x, "a beginning, STATE ahead of FULL", STATE, x::bridge);
        x.letters('9');
        refused(x, "whole again", FULL, x::bridge);
        x.letters('9');
        refused(x, "too long, STATE ahead of FULL", STATE, x::bridge);
    }

    private static NineBridges ofEachKind() {
        return with("c:d,2/3+4w5", "*c:de,2/3+4w5", "~c:def,2/3+4w5", "=c:de,2/3+4w5");
    }

    private static void as() {
        sentence("A BRIDGE taken as a KIND: its number; NONE: it is none such (the cast fails). UNKNOWN; OUTSIDE.");
        NineBridges x = ofEachKind();
        range(x, "bridge", 0, 3, UNKNOWN, b -> x.as(b, 0));
        for (int b = 0; b < 4; b++) {
            int number = b;
            range(x, "kind of " + b, 0, 3, OUTSIDE, kind -> x.as(number, kind));
        }
        refused(x, "UNKNOWN ahead of OUTSIDE", UNKNOWN, () -> x.as(4, 4));
        refused(x, "UNKNOWN ahead of OUTSIDE, below", UNKNOWN, () -> x.as(-1, -1));
    }

    private static void about() {
        sentence("Of a BRIDGE: what = 0 KIND, 1 PIVOT, 2 how many ENDS, 3 STAND, 4 TURN, 5 OFFSET, 6 BEARS, 7 its ROUND (in minutes, by FROST as it is), 10 to 12 the so-manieth END (NONE). UNKNOWN; OUTSIDE.");
        NineBridges x = ofEachKind();
        int[][] told = {
            {0, 2, 1, 2, 3, 4, 5, 5, 3, NONE, NONE},
            {1, 2, 2, 2, 3, 4, 5, 10, 3, 4, NONE},
            {2, 2, 3, 2, 3, 4, 5, 20, 3, 4, 5},
            {3, 2, 2, 2, 3, 4, 5, 1, 3, 4, NONE}};
        int[] inFrost = {5, 16, 32, 1};
        for (int b = 0; b < 4; b++) {
            int number = b;
            for (int i = 0; i < 11; i++) due("about(" + b + ", " + (i < 8 ? i : i + 2) + ")", x.about(b, i < 8 ? i : i + 2), told[b][i]);
            range(x, "what of " + b, 0, 7, OUTSIDE, what -> x.about(number, what));
            range(x, "what of an END of " + b, 10, 12, OUTSIDE, what -> x.about(number, what));
            x.frost(true);
            due("ROUND in FROST of " + b, x.about(b, 7), inFrost[b]);
            x.frost(false);
            due("ROUND behind FROST of " + b, x.about(b, 7), told[b][7]);
        }
        range(x, "bridge", 0, 3, UNKNOWN, b -> x.about(b, 0));
        refused(x, "UNKNOWN ahead of OUTSIDE", UNKNOWN, () -> x.about(4, 8));
    }

    private static void offset() {
        sentence("OFFSET of a BRIDGE becomes v: what it was. UNKNOWN; OUTSIDE.");
        NineBridges x = ofEachKind();
        for (int b = 0; b < 4; b++) {
            int number = b, was = 4;
            for (int v : new int[] {0, 9, 9, 0, 5}) {
                due("offset(" + b + ", " + v + ")", x.offset(b, v), was);
                due("then", x.about(b, 5), v);
                was = v;
            }
            range(x, "v of " + b, 0, 9, OUTSIDE, v -> x.offset(number, v));
            due("the last that was told", x.about(b, 5), 9);
            if (b < 3) due("the next one has its own", x.about(b + 1, 5), 4);
        }
        range(x, "bridge", 0, 3, UNKNOWN, b -> x.offset(b, 1));
        refused(x, "UNKNOWN ahead of OUTSIDE", UNKNOWN, () -> x.offset(4, 10));
        due("no BRIDGES", new NineBridges().offset(0, 0), UNKNOWN);
    }

    private static void frost() {
        sentence("FROST is, or is not: whether it was (1, 0).");
        NineBridges x = with("*a:b,1/1+0");
        boolean[] is = {false, true, true, false, false, true};
        int was = 0;
        for (boolean next : is) {
            due("frost(" + next + ")", x.frost(next), was);
            was = next ? 1 : 0;
            due("count", x.count(1), was);
            due("ROUND", x.about(0, 7), 2 + was);
        }
    }

    private static void joinsAndLasts() {
        sentence("Which ISLET a BRIDGE joins with its PIVOT in a minute (0 to 9999); NONE: it turns. UNKNOWN; OUTSIDE.");
        NineBridges x = ofEachKind();
        for (int b = 0; b < 4; b++) {
            int number = b;
            range(x, "minute of " + b, 0, 9999, OUTSIDE, t -> x.joins(number, t));
            range(x, "lasts, minute of " + b, 0, 9999, OUTSIDE, t -> x.lasts(number, t));
        }
        range(x, "bridge", 0, 3, UNKNOWN, b -> x.joins(b, 0));
        refused(x, "UNKNOWN ahead of OUTSIDE", UNKNOWN, () -> x.joins(4, 10000));
        refused(x, "UNKNOWN ahead of OUTSIDE, below", UNKNOWN, () -> x.joins(-1, -1));
        // 9999 and 4 are 10003, the fourth minute of a round of 5, of 10 and of 20
        due("in 9999, it turns", x.joins(0, 9999), NONE);
        due("in 9997", x.joins(0, 9997), 3);
        due("in 9996", x.joins(0, 9996), 3);
        due("in 9995", x.joins(0, 9995), NONE);
        due("the first minute", x.joins(0, 0), NONE);
        due("the second one", x.joins(0, 1), 3);

        sentence("How many minutes more from a minute on (that one, too) it joins the same (0: it turns; 999: for ever). UNKNOWN; OUTSIDE.");
        range(x, "bridge", 0, 3, UNKNOWN, b -> x.lasts(b, 0));
        refused(x, "UNKNOWN ahead of OUTSIDE", UNKNOWN, () -> x.lasts(4, 10000));
        due("the first of two", x.lasts(0, 1), 2);
        due("the last of two", x.lasts(0, 2), 1);
        due("it turns", x.lasts(0, 3), 0);
        due("it still turns", x.lasts(0, 5), 0);
        due("beyond 9999", with("a:b,9/1+5").lasts(0, 9995), 9);
        due("from 9999 on", with("a:b,9/1+2").lasts(0, 9999), 8);
        due("for ever", x.lasts(3, 9999), 999);
        due("for ever, from 0 on", x.lasts(3, 0), 999);
    }

    public static void main(String[] args) {
        newObject();
        lettersUpToEight();
        letterCodes();
        twentyLetters();
        blank();
        fault();
        bridge();
        as();
        about();
        offset();
        frost();
        joinsAndLasts();
        finish();
    }
}
