import java.util.ArrayList;
import java.util.Arrays;
import java.util.List;
import java.util.function.Supplier;

/** Of several refusals the first is told, for every mix of right and wrong arguments; and none of them changes anything. */
public final class RefusalsTest extends Asking {
    private static final String SENTENCE = "Refusals, of several the first as told by each call: UNKNOWN (a number names nothing), "
        + "OUTSIDE (it is not as told), STATE (as told), FULL; they change nothing.";
    private static final int FINE = 0;
    private static final String WHOLE = "a:b,1/1+0", NO_BRIDGE = "~a:bcd,9/9+9w9abcdef";

    interface Asked {
        long of(NineBridges x, int... a);
    }

    /** One that an argument may be, and what is due for it alone. */
    private static final class Choice {
        final int value, refusal;

        Choice(int value, int refusal) {
            this.value = value;
            this.refusal = refusal;
        }
    }

    private static Choice[] argument(int low, int high, int refusal) {
        return new Choice[] {new Choice(low, FINE), new Choice(high, FINE), new Choice(low - 1, refusal), new Choice(high + 1, refusal),
            new Choice(LOW, refusal), new Choice(HIGH, refusal)};
    }

    /** One fine number, which the bounds of another argument go by, and the first ones beyond the bounds. */
    private static Choice[] minute(int fine, int most) {
        return new Choice[] {new Choice(fine, FINE), new Choice(-1, OUTSIDE), new Choice(most + 1, OUTSIDE), new Choice(LOW, OUTSIDE), new Choice(HIGH, OUTSIDE)};
    }

    private static Choice[] islet() {
        return argument(0, 7, UNKNOWN);
    }

    private static Choice[] carrier() {
        return argument(1, 9, OUTSIDE);
    }

    /** Ten BRIDGES (the last one FIXED), six NOTES, FROST, letters, and an IMAGE that is unlike all that. */
    private static NineBridges rich(String page) {
        NineBridges x = with("~a:bcd,9/9+1", "a:bcd,3/1+0", "*c:deb,1/2+8w3");
        x.note(0, 1, 2, 3);
        x.image();
        for (String text : new String[] {"=d:efg,1/1+9", "~e:fgh,2/2+2", "b:cah,1/9+3", "*h:abc,9/1+4", "c:hgf,5/5+5", "~g:abc,7/3+6", "=f:hab,4/6+7"}) add(x, text);
        x.offset(0, 7);
        x.frost(true);
        for (int i = 0; i < 5; i++) x.note(i, i, i + 1, i + 9);
        write(x, page);
        return x;
    }

    /** What can be told of an object, its IMAGE too: the object is used up by it. */
    private static String allOf(NineBridges x) {
        StringBuilder all = new StringBuilder();
        for (int round = 0; round < 2; round++) {
            all.append(x.digest()).append(' ').append(x.fault()).append(' ').append(x.forget()).append(' ');
            all.append(x.bridge()).append(' ').append(x.blank()).append(' ').append(x.again()).append(' ');
            for (int b = 0; b < x.count(0); b++) all.append(x.about(b, 5)).append(x.lost(b)).append(' ');
            all.append(x.restore()).append(' ');
        }
        return all.toString();
    }

    private static void unchanged(String call, NineBridges x, NineBridges twin) {
        String got = allOf(x), want = allOf(twin);
        due(call + " has changed something: " + got + " is not " + want, got.equals(want) ? 1 : 0, 1);
    }

    private static int firstOf(int one, int other) {
        if (one == FINE || other == FINE) return one + other;
        return Math.max(one, other);
    }

    /** Every mix of the choices; those that are fine in all arguments are left to the other tests, unless 'otherwise' is due. */
    private static void everyMix(String call, int otherwise, Asked asked, Choice[]... arguments) {
        NineBridges x = rich(NO_BRIDGE);
        long ahead = x.digest();
        int mixes = 1;
        for (Choice[] choices : arguments) mixes *= choices.length;
        for (int mix = 0; mix < mixes; mix++) {
            int[] values = new int[arguments.length];
            int due = otherwise, rest = mix;
            for (int i = 0; i < values.length; i++) {
                Choice one = arguments[i][rest % arguments[i].length];
                rest /= arguments[i].length;
                values[i] = one.value;
                due = firstOf(due, one.refusal);
            }
            if (due != FINE) due(call + Arrays.toString(values), asked.of(x, values), due);
        }
        due(call + ": digest()", x.digest(), ahead);
        unchanged(call, x, rich(NO_BRIDGE));
    }

    /** Fewer choices for calls of many arguments. */
    private static Choice[] few(Choice[] all) {
        return new Choice[] {all[1], all[2], all[3]};
    }

    private static void ofBridges() {
        sentence(SENTENCE);
        Choice[] bridge = argument(0, 9, UNKNOWN);
        everyMix("as", FINE, (x, a) -> x.as(a[0], a[1]), bridge, argument(0, 3, OUTSIDE));
        everyMix("about", FINE, (x, a) -> x.about(a[0], a[1]), bridge, argument(0, 7, OUTSIDE));
        everyMix("about, END", FINE, (x, a) -> x.about(a[0], a[1]), bridge, argument(10, 12, OUTSIDE));
        everyMix("offset", FINE, (x, a) -> x.offset(a[0], a[1]), bridge, argument(0, 9, OUTSIDE));
        everyMix("joins", FINE, (x, a) -> x.joins(a[0], a[1]), bridge, argument(0, 9999, OUTSIDE));
        everyMix("lasts", FINE, (x, a) -> x.lasts(a[0], a[1]), bridge, argument(0, 9999, OUTSIDE));
        everyMix("count", FINE, (x, a) -> x.count(a[0]), argument(0, 4, OUTSIDE));
    }

    private static void ofWays() {
        sentence(SENTENCE);
        Choice[] minute = argument(0, 999, OUTSIDE), many = argument(1, 60, OUTSIDE), two = argument(0, 1, OUTSIDE);
        everyMix("soonest", FINE, (x, a) -> x.soonest(a[0], a[1], a[2], a[3], a[4]), islet(), islet(), minute, carrier(), carrier());
        everyMix("last", FINE, (x, a) -> x.last(a[0], a[1], a[2], a[3], a[4], a[5]),
            few(islet()), few(islet()), minute(500, 999), argument(500, 999, OUTSIDE), few(carrier()), few(carrier()));
        everyMix("cut", FINE, (x, a) -> x.cut(a[0], a[1], a[2]), islet(), minute, argument(1, 400, OUTSIDE));
        everyMix("worst", FINE, (x, a) -> x.worst(a[0], a[1], a[2], a[3], a[4]), islet(), islet(), many, carrier(), carrier());
        everyMix("mean", FINE, (x, a) -> x.mean(a[0], a[1], a[2], a[3], a[4], a[5]), few(islet()), few(islet()), many, few(carrier()), few(carrier()), two);
        everyMix("meeting", FINE, (x, a) -> x.meeting(a[0], a[1], a[2], a[3], a[4], a[5]), few(islet()), few(islet()), minute, few(carrier()), few(carrier()), two);
        everyMix("stranded", FINE, (x, a) -> x.stranded(a[0], a[1], a[2]), argument(0, 9, UNKNOWN), argument(0, 2, OUTSIDE), islet());
    }

    private static void ofState() {
        sentence(SENTENCE);
        Choice[] bridge = {new Choice(0, FINE), new Choice(3, STATE), new Choice(9, STATE), new Choice(-1, UNKNOWN), new Choice(10, UNKNOWN)};
        everyMix("set", FINE, (x, a) -> x.set(a[0], a[1], a[2]), bridge, islet(), islet());
        Choice[] from = {new Choice(0, FINE), new Choice(-1, UNKNOWN), new Choice(8, UNKNOWN)};
        Choice[] to = {new Choice(7, FINE), new Choice(-1, UNKNOWN), new Choice(8, UNKNOWN)};
        everyMix("crowd", FINE, (x, a) -> x.crowd(a[0], a[1], a[2], a[3], a[4], a[5]),
            from, to, minute(999, 999), argument(999, 1059, OUTSIDE), few(carrier()), few(carrier()));
        everyMix("crowd, from and to the same", STATE, (x, a) -> x.crowd(a[0], a[0], a[1], a[2], a[3], a[4]),
            islet(), minute(999, 999), argument(999, 1059, OUTSIDE), few(carrier()), few(carrier()));
    }

    private static void ofNotes() {
        sentence(SENTENCE);
        everyMix("note, full", FULL, (x, a) -> x.note(a[0], a[1], a[2], a[3]), islet(), minute(99, 99), islet(), argument(99, 499, OUTSIDE));
        everyMix("lost", FINE, (x, a) -> x.lost(a[0]), argument(0, 9, UNKNOWN));
        everyMix("worth", FINE, (x, a) -> x.worth(a[0], a[1], a[2]), argument(0, 9, UNKNOWN), carrier(), carrier());
    }

    private static void ofThePage() {
        sentence(SENTENCE);
        for (long w : new long[] {127, 0x6100L, -1, Long.MIN_VALUE, Long.MAX_VALUE}) {
            pageRefuses("letters(" + w + "), full", OUTSIDE, () -> rich(NO_BRIDGE), w);
            pageRefuses("letters(" + w + ")", OUTSIDE, () -> rich(WHOLE), w);
        }
        pageRefuses("letters, full", FULL, () -> rich(NO_BRIDGE), 'a');
        pageRefuses("letters, too many", FULL, () -> rich(WHOLE + WHOLE), packed("abc"));
        NineBridges none = rich(NO_BRIDGE), eleventh = rich(WHOLE), empty = rich("");
        due("bridge(), no BRIDGE on THE PAGE, and ten are there", none.bridge(), STATE);
        unchanged("bridge(), no BRIDGE", none, rich(NO_BRIDGE));
        due("bridge(), ten are there", eleventh.bridge(), FULL);
        unchanged("bridge(), the eleventh", eleventh, rich(WHOLE));
        due("bridge(), an empty PAGE", empty.bridge(), STATE);
        unchanged("bridge(), an empty PAGE", empty, rich(""));
        NineBridges noImage = written(WHOLE), twin = written(WHOLE);
        due("restore(), no IMAGE", noImage.restore(), STATE);
        due("restore(), still none", noImage.restore(), STATE);
        unchanged("restore()", noImage, twin);
    }

    private static void pageRefuses(String what, int refusal, Supplier<NineBridges> made, long w) {
        NineBridges x = made.get();
        due(what, x.letters(w), refusal);
        unchanged(what, x, made.get());
    }

    /** What only asks changes nothing either: SET tells an OFFSET and does not take it, STUCK is only thought of, and so on. */
    private static void questions() {
        sentence("Nothing is promised beyond the answers and state changes described above");
        List<Asked> questions = new ArrayList<>(List.of(
            (x, a) -> x.fault(), (x, a) -> x.as(0, 2), (x, a) -> x.about(0, 7), (x, a) -> x.joins(0, 5), (x, a) -> x.lasts(0, 5),
            (x, a) -> x.soonest(0, 7, 5, 2, 2), (x, a) -> x.last(0, 7, 5, 700, 2, 2), (x, a) -> x.again(), (x, a) -> x.cut(0, 5, 77)));
        questions.addAll(List.of(
            (x, a) -> x.worst(0, 7, 60, 2, 2), (x, a) -> x.mean(0, 7, 60, 2, 2, 1), (x, a) -> x.set(0, 0, 7), (x, a) -> x.set(8, 7, 0),
            (x, a) -> x.crowd(0, 7, 5, 65, 1, 1), (x, a) -> x.stranded(0, 2, 0), (x, a) -> x.stranded(9, 2, 0)));
        questions.addAll(List.of(
            (x, a) -> x.meeting(0, 7, 5, 2, 2, 1), (x, a) -> x.lost(0), (x, a) -> x.lost(9), (x, a) -> x.worth(0, 1, 1),
            (x, a) -> x.worth(9, 9, 9), (x, a) -> x.count(4), (x, a) -> x.digest(), (x, a) -> x.letters(0)));
        for (int i = 0; i < questions.size(); i++) {
            NineBridges x = rich(NO_BRIDGE);
            long first = questions.get(i).of(x);
            due("question " + i + " is answered", isRefusal(first) ? 1 : 0, 0);
            due("question " + i + " again", questions.get(i).of(x), first);
            unchanged("question " + i, x, rich(NO_BRIDGE));
        }
    }

    public static void main(String[] args) {
        ofBridges();
        ofWays();
        ofState();
        ofNotes();
        ofThePage();
        questions();
        finish();
    }
}
