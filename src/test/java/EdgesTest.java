import java.util.ArrayList;
import java.util.List;
import java.util.TreeSet;
import java.util.function.Supplier;
import java.util.function.ToLongFunction;

/**
 * Every number of every call at its edges, on hills of 2 to 5 places and of 0 to 3 dogs: the last ones that are taken,
 * the first ones that are refused on each side, and far ones that shifts or casts could take for near ones. Behind each
 * call that is refused one count of STATUS is one more, and all else is as on an object that was not called.
 */
public final class EdgesTest extends Checks {
    private static final int BAD_SOUGHT = -10;

    private static final int BY_BAD = 0;
    private static final int BY_NO = 1;
    private static final int BY_FULL = 2;

    /** The hill that calls are held on: how many places, how many dogs. */
    private static int n = 0;
    private static int dogs = 0;

    private interface Numbered {
        long ask(OneWhistle x, int v);
    }

    public static void main(String[] args) {
        for (n = 2; n <= 5; n++) {
            for (dogs = 0; dogs <= 3; dogs++) {
                edgesOfHills();
                edgesOfDogs();
                edgesOfTexts();
                edgesOfTunes();
                edgesOfSearches();
                edgesOfBarks();
                edgesOfWhatThereIs();
            }
            dogs = 3;
            fullOfDogs();
        }
        n = 5;
        firstRefusalOfText();
        firstRefusalOfImages();
        oneCountForManyWrongNumbers();
        statusOfManyCalls();
        close("the edges hold");
    }

    // ---- what is held

    /** Nothing is as at first, so that whatever a refused call should change shows. */
    private static OneWhistle made() {
        OneWhistle x = new OneWhistle();
        x.places(3);
        x.dog(0, row("bca"), row("aac"));
        x.dog(1, row("abc"), row("ccc"));
        x.pup(3, row("bca"), row("cab"), row("abc"), row("aab"), 2);
        x.dog(0, 0, 0);
        x.places(1);
        x.shut(1, false);
        x.shut(1, false);
        x.shut(2, true);
        x.put(0, 1);
        x.put(1, 5);
        x.put(2, 7);
        x.image(0);
        x.drawn(0, 1, 3);
        x.places(n);
        String round = "bcdea".substring(0, n - 1) + "a";
        for (int i = 0; i < dogs; i++) {
            if (i == 1) {
                x.pup(2, row(round), 0, 0, row(round), 1);
            } else {
                x.dog(4 * i / 2, row(round), 0);
            }
        }
        x.shut(n - 1, true);
        x.put(0, 1);
        x.put(1, 2);
        x.put(2, 3);
        x.put(3, 4);
        type(x, "places 2;dog 1 ab ba;");
        return x;
    }

    /** All that can be seen of an object but STATUS: itself, its images, and what its text tells. */
    private static String portrait(OneWhistle x) {
        StringBuilder seen = new StringBuilder();
        seen.append(x.digest()).append(' ').append(x.part(0)).append('/').append(x.part(1));
        for (int what = 0; what <= 3; what++) {
            seen.append(' ').append(x.count(what));
        }
        for (int i = 0; i <= 1; i++) {
            seen.append(' ').append(x.from(i)).append(' ').append(x.digest());
        }
        seen.append(' ').append(x.read()).append(' ').append(x.digest()).append(' ').append(x.clear());
        return seen.toString();
    }

    private static int[] counts(OneWhistle x) {
        return new int[] {x.status(0), x.status(1), x.status(2)};
    }

    private static void statusSince(String call, OneWhistle x, int[] before, int reason) {
        for (int what = 0; what <= 2; what++) {
            due(call + ", status(" + what + ") behind it,", x.status(what), before[what] + (what == reason ? 1 : 0));
        }
    }

    private static String told(String call) {
        return call + " (" + n + " places, " + dogs + " dogs)";
    }

    private static void refused(String call, Supplier<OneWhistle> maker, ToLongFunction<OneWhistle> asked, long answer,
            int reason) {
        OneWhistle x = maker.get();
        int[] before = counts(x);
        due(told(call), asked.applyAsLong(x), answer);
        statusSince(told(call), x, before, reason);
        same(told(call), portrait(x), portrait(maker.get()));
    }

    private static void bad(String call, ToLongFunction<OneWhistle> asked, long answer) {
        refused(call, EdgesTest::made, asked, answer, BY_BAD);
    }

    private static void taken(String call, ToLongFunction<OneWhistle> asked, long badAnswer) {
        OneWhistle x = made();
        int[] before = counts(x);
        long answer = asked.applyAsLong(x);
        due(told(call) + " is refused:", answer == badAnswer ? 1 : 0, 0);
        statusSince(told(call), x, before, -1);
    }

    /** Numbers that are not low to high: the nearest, and those that wrap to one of them. */
    private static TreeSet<Integer> beyond(int low, int high) {
        TreeSet<Integer> all = new TreeSet<>(List.of(low - 1, low - 2, high + 1, high + 2, -1, high + 8, low - 8, low + 16,
            high + 16, low + 32, high + 32, low - 32, low + 64, low + 256, high - 256, low + 65536, high - 65536,
            high | 1 << 31, low | 1 << 30, Integer.MIN_VALUE, Integer.MAX_VALUE, Integer.MIN_VALUE + low));
        all.removeIf(v -> v >= low && v <= high);
        return all;
    }

    /** All that are within, or the ends of what is wide. */
    private static TreeSet<Integer> within(int low, int high) {
        TreeSet<Integer> all = new TreeSet<>();
        for (int v = low; v <= high; v++) {
            if (v - low <= 32 || high - v <= 32 || high - low <= 100) {
                all.add(v);
            }
        }
        return all;
    }

    /** One number of a call: low to high are taken and no others; none at all if high is less. */
    private static void edges(String call, int low, int high, long badAnswer, Numbered asked) {
        for (int v : within(low, high)) {
            taken(call + " of " + v, x -> asked.ask(x, v), badAnswer);
        }
        for (int v : beyond(low, high)) {
            bad(call + " of " + v, x -> asked.ask(x, v), badAnswer);
        }
    }

    /** A number of bits: those of so many places, dogs or whistles alone. */
    private static void bits(String call, int count, long badAnswer, Numbered asked) {
        edges(call, 0, (1 << count) - 1, badAnswer, asked);
        for (int bit = count; bit < 32; bit++) {
            int v = 1 << bit;
            bad(call + " of bit " + bit, x -> asked.ask(x, v), badAnswer);
        }
    }

    // ---- a hill

    private static void edgesOfHills() {
        promise = 2;
        edges("places", 2, 5, OneWhistle.BAD, (x, v) -> x.places(v));
        promise = 5;
        edges("shut", 0, n - 1, OneWhistle.BAD, (x, v) -> x.shut(v, v != n - 1));
        edges("shut, not", 0, n - 1, OneWhistle.BAD, (x, v) -> {
            if (v >= 0 && v < n - 1) {
                x.shut(v, true);
            }
            return x.shut(v, false);
        });
        for (int p = 0; p < n; p++) {
            int place = p;
            boolean is = place == n - 1;
            refused("shut(" + place + ", " + is + ")", EdgesTest::made, x -> x.shut(place, is), OneWhistle.NO, BY_NO);
        }
        promise = 6;
        edges("put, what", 0, 3, OneWhistle.BAD, (x, v) -> x.put(v, 1));
        edges("put(0, ..)", 0, n - 1, OneWhistle.BAD, (x, v) -> x.put(0, v));
        bits("put(1, ..)", n, OneWhistle.BAD, (x, v) -> x.put(1, v));
        edges("put(2, ..)", 1, 9, OneWhistle.BAD, (x, v) -> x.put(2, v));
        edges("put(3, ..)", 1, 9, OneWhistle.BAD, (x, v) -> x.put(3, v));
        promise = 10;
        edges("goes, dog", 0, dogs - 1, OneWhistle.BAD, (x, v) -> x.goes(v, 0, 0, 0));
        if (dogs > 0) {
            edges("goes, place", 0, n - 1, OneWhistle.BAD, (x, v) -> x.goes(0, v, 0, 0));
            edges("goes, whistle", 0, 1, OneWhistle.BAD, (x, v) -> x.goes(0, 0, v, 0));
            edges("goes, t", 0, 99, OneWhistle.BAD, (x, v) -> x.goes(dogs - 1, 0, 0, v));
        }
    }

    /** Kinds, rows and what is learnt, while there is room for a dog. */
    private static void edgesOfDogs() {
        if (dogs == 3) {
            return;
        }
        promise = 3;
        for (int kind : new int[] {0, 1, 4}) {
            taken("dog of kind " + kind, x -> x.dog(kind, 0, 0), OneWhistle.BAD);
        }
        for (int kind : beyond(0, 1)) {
            if (kind != 4) {
                bad("dog of kind " + kind, x -> x.dog(kind, 0, 0), OneWhistle.BAD);
            }
        }
        rows("dog, row0", (x, v) -> x.dog(0, v, 0));
        rows("dog, row1", (x, v) -> x.dog(4, 0, v));
        promise = 4;
        edges("pup, kind", 2, 3, OneWhistle.BAD, (x, v) -> x.pup(v, 0, 0, 0, 0, 1));
        rows("pup, row0", (x, v) -> x.pup(2, v, 0, 0, 0, 1));
        rows("pup, row1", (x, v) -> x.pup(3, 0, v, 0, 0, 2));
        rows("pup, then0", (x, v) -> x.pup(2, 0, 0, v, 0, 3));
        rows("pup, then1", (x, v) -> x.pup(3, 0, 0, 0, v, 3));
        edges("pup, m", 1, 3, OneWhistle.BAD, (x, v) -> x.pup(3, 0, 0, 0, 0, v));
    }

    /** At each place the figures of places are taken, and no others; beyond the last place nothing is. */
    private static void rows(String call, Numbered asked) {
        for (int p = 0; p < n; p++) {
            for (int figure = 0; figure < 8; figure++) {
                int row = figure << 3 * p;
                if (figure < n) {
                    taken(call + " of " + row, x -> asked.ask(x, row), OneWhistle.BAD);
                } else {
                    bad(call + " of " + row, x -> asked.ask(x, row), OneWhistle.BAD);
                }
            }
        }
        int greatest = row("eeeee".replace('e', (char) ('a' + n - 1)).substring(0, n));
        taken(call + " of " + greatest, x -> asked.ask(x, greatest), OneWhistle.BAD);
        for (int bit = 3 * n; bit < 32; bit++) {
            int row = 1 << bit;
            bad(call + " of " + row, x -> asked.ask(x, row), OneWhistle.BAD);
            bad(call + " of " + (row | greatest), x -> asked.ask(x, row | greatest), OneWhistle.BAD);
        }
        bad(call + " of -1", x -> asked.ask(x, -1), OneWhistle.BAD);
        bad(call + " of the greatest", x -> asked.ask(x, Integer.MAX_VALUE), OneWhistle.BAD);
    }

    /** With three dogs a good one is FULL, of whatever kind; what is BAD is BAD all the same. */
    private static void fullOfDogs() {
        promise = 3;
        for (int kind : new int[] {0, 1, 4}) {
            refused("a 4th of kind " + kind, EdgesTest::made, x -> x.dog(kind, 0, 1), OneWhistle.FULL, BY_FULL);
        }
        for (int kind : new int[] {-1, 2, 3, 5}) {
            bad("a 4th of kind " + kind, x -> x.dog(kind, 0, 1), OneWhistle.BAD);
        }
        bad("a 4th with row0 at fault", x -> x.dog(0, n, 0), OneWhistle.BAD);
        bad("a 4th with row1 at fault", x -> x.dog(0, 0, 1 << 3 * n), OneWhistle.BAD);
        promise = 4;
        for (int kind : new int[] {2, 3}) {
            refused("a 4th of kind " + kind, EdgesTest::made, x -> x.pup(kind, 0, 1, 0, 1, 3), OneWhistle.FULL, BY_FULL);
        }
        for (int kind : new int[] {-1, 0, 1, 4, 5}) {
            bad("a 4th of kind " + kind, x -> x.pup(kind, 0, 1, 0, 1, 3), OneWhistle.BAD);
        }
        bad("a 4th with row0 at fault", x -> x.pup(2, n, 0, 0, 0, 1), OneWhistle.BAD);
        bad("a 4th with row1 at fault", x -> x.pup(2, 0, n, 0, 0, 1), OneWhistle.BAD);
        bad("a 4th with then0 at fault", x -> x.pup(2, 0, 0, n, 0, 1), OneWhistle.BAD);
        bad("a 4th with then1 at fault", x -> x.pup(2, 0, 0, 0, n, 1), OneWhistle.BAD);
        bad("a 4th that learns 0", x -> x.pup(2, 0, 0, 0, 0, 0), OneWhistle.BAD);
        bad("a 4th that learns 4", x -> x.pup(2, 0, 0, 0, 0, 4), OneWhistle.BAD);
    }

    private static void edgesOfTexts() {
        promise = 7;
        edges("type", 1, 8, OneWhistle.BAD, (x, v) -> x.type(0x3b3b3b3b3b3b3b3bL, v));
    }

    /** So many bytes of a text that reads well. */
    private static OneWhistle withText(int length) {
        OneWhistle x = made();
        x.clear();
        StringBuilder text = new StringBuilder("places 3;");
        while (text.length() < length) {
            text.append(' ');
        }
        type(x, text.toString());
        return x;
    }

    private static void firstRefusalOfText() {
        promise = 7;
        for (int count = 1; count <= 8; count++) {
            int bytes = count;
            for (int room = 0; room < bytes; room++) {
                int length = 200 - room;
                refused("type of " + bytes + " behind " + length, () -> withText(length), x -> x.type(-1L, bytes),
                    OneWhistle.FULL, BY_FULL);
            }
            OneWhistle x = withText(200 - bytes);
            due("type of the last " + bytes, x.type(0x2020202020202020L, bytes), 200);
            due("count(3) behind it", x.count(3), 200);
            due("read() of 200", x.read(), 0);
            promise = 8;
            due("clear() of 200", x.clear(), 200);
            due("clear() of none", x.clear(), 0);
            promise = 7;
            due("type behind it", x.type(32, bytes), bytes);
        }
        for (int bytes : beyond(1, 8)) {
            refused("type of " + bytes + " behind 200", () -> withText(200), x -> x.type(0, bytes), OneWhistle.BAD, BY_BAD);
        }
    }

    // ---- tunes

    private static void edgesOfTunes() {
        promise = 11;
        edges("run, dog", 0, dogs - 1, OneWhistle.BAD, (x, v) -> x.run(v, 0, 0, 0));
        promise = 12;
        edges("meets, dog", 0, dogs - 1, OneWhistle.BAD, (x, v) -> x.meets(v, 0, 0));
        if (dogs == 0) {
            return;
        }
        promise = 11;
        edges("run, place", 0, n - 1, OneWhistle.BAD, (x, v) -> x.run(0, v, 1, 1));
        edges("run, n", 0, 20, OneWhistle.BAD, (x, v) -> x.run(0, 0, 0, v));
        promise = 12;
        edges("meets, n", 0, 20, OneWhistle.BAD, (x, v) -> x.meets(0, 0, v));
        for (int count = 0; count <= 20; count++) {
            int length = count;
            promise = 11;
            bits("run of " + length + ", tune", length, OneWhistle.BAD, (x, v) -> x.run(0, 0, v, length));
            promise = 12;
            bits("meets of " + length + ", tune", length, OneWhistle.BAD, (x, v) -> x.meets(0, v, length));
        }
    }

    private static void edgesOfSearches() {
        promise = 13;
        bits("tame, dogs", dogs, BAD_SOUGHT, (x, v) -> x.tame(v, 0));
        edges("tame, what", 0, 1, BAD_SOUGHT, (x, v) -> x.tame(0, v));
        edges("tame, what", 0, 1, BAD_SOUGHT, (x, v) -> x.tame((1 << dogs) - 1, v));
        promise = 14;
        bits("quiet, dogs", dogs, OneWhistle.BAD, (x, v) -> x.quiet(v));
        promise = 15;
        edges("apart, dog", 0, dogs - 1, OneWhistle.BAD, (x, v) -> x.apart(v));
        promise = 16;
        bits("shuts, dogs", dogs, OneWhistle.BAD, (x, v) -> x.shuts(v));
        promise = 17;
        edges("neighbour, dog", 0, dogs - 1, BAD_SOUGHT, (x, v) -> x.neighbour(0, v, 0, 0));
        for (int d = 0; d < dogs; d++) {
            edgesOfNeighbour(d);
        }
    }

    /** Sets of the others are taken; one that he is of is refused, and so is one with a dog that is not there. */
    private static void edgesOfNeighbour(int dog) {
        for (int s = 0; s < 1 << dogs; s++) {
            int set = s;
            String call = "neighbour(" + set + ", " + dog + ", ..)";
            if ((set >> dog & 1) == 0) {
                taken(call, x -> x.neighbour(set, dog, n - 1, 1), BAD_SOUGHT);
            } else {
                bad(call, x -> x.neighbour(set, dog, n - 1, 1), BAD_SOUGHT);
            }
        }
        for (int set : beyond(0, (1 << dogs) - 1)) {
            bad("neighbour(" + set + ", " + dog + ", ..)", x -> x.neighbour(set, dog, 0, 0), BAD_SOUGHT);
        }
        edges("neighbour, place", 0, n - 1, BAD_SOUGHT, (x, v) -> x.neighbour(0, dog, v, 0));
        edges("neighbour, what", 0, 1, BAD_SOUGHT, (x, v) -> x.neighbour(0, dog, 0, v));
    }

    // ---- barks

    private static void edgesOfBarks() {
        promise = 18;
        edges("tells, dog", 0, dogs - 1, BAD_SOUGHT, (x, v) -> x.tells(v, 1, 0));
        promise = 20;
        edges("starts, dog", 0, dogs - 1, OneWhistle.BAD, (x, v) -> x.starts(v, 0, 1, 0));
        promise = 21;
        edges("drawn, dog", 0, dogs - 1, OneWhistle.BAD, (x, v) -> x.drawn(v, 0, 0));
        promise = 19;
        edges("which, n", 1, 16, OneWhistle.BAD, (x, v) -> x.which(0, v, 0));
        for (int count = 1; count <= 16; count++) {
            int length = count;
            bits("which of " + length + ", tune", length, OneWhistle.BAD, (x, v) -> x.which(v, length, 0));
            bits("which of " + length + ", barks", length, OneWhistle.BAD, (x, v) -> x.which(0, length, v));
        }
        if (dogs == 0) {
            return;
        }
        promise = 18;
        edges("tells, places", 1, (1 << n) - 1, BAD_SOUGHT, (x, v) -> x.tells(dogs - 1, v, 0));
        for (int w = 0; w <= 2; w++) {
            int what = w;
            bad("tells of no place, what " + what, x -> x.tells(0, 0, what), BAD_SOUGHT);
        }
        edges("tells, what", 0, 2, BAD_SOUGHT, (x, v) -> x.tells(dogs - 1, (1 << n) - 1, v));
        promise = 20;
        edges("starts, n", 1, 16, OneWhistle.BAD, (x, v) -> x.starts(0, 0, v, 0));
        for (int count = 1; count <= 16; count++) {
            int length = count;
            bits("starts of " + length + ", tune", length, OneWhistle.BAD, (x, v) -> x.starts(0, v, length, 0));
            bits("starts of " + length + ", barks", length, OneWhistle.BAD, (x, v) -> x.starts(0, 0, length, v));
        }
        promise = 21;
        edges("drawn, n", 0, 12, OneWhistle.BAD, (x, v) -> x.drawn(dogs - 1, v, 3));
        edges("drawn, w", 0, 10, OneWhistle.BAD, (x, v) -> x.drawn(dogs - 1, 12, v));
    }

    // ---- what there is

    private static void edgesOfWhatThereIs() {
        promise = 22;
        edges("part", 0, 1, OneWhistle.BAD, (x, v) -> x.part(v));
        promise = 23;
        edges("image", 0, 1, OneWhistle.BAD, (x, v) -> x.image(v));
        promise = 24;
        taken("from(0)", x -> x.from(0), OneWhistle.BAD);
        taken("from(1) behind image(1)", x -> x.image(1) == 1 ? x.from(1) : OneWhistle.BAD, OneWhistle.BAD);
        for (int image : beyond(0, 1)) {
            bad("from(" + image + ")", x -> x.from(image), OneWhistle.BAD);
        }
        promise = 25;
        edges("status", 0, 2, OneWhistle.NONE, (x, v) -> x.status(v));
        promise = 26;
        edges("count", 0, 3, OneWhistle.BAD, (x, v) -> x.count(v));
    }

    private static void firstRefusalOfImages() {
        promise = 24;
        refused("from(1), only 0 kept", EdgesTest::made, x -> x.from(1), OneWhistle.NO, BY_NO);
        for (int i = 0; i <= 1; i++) {
            int image = i;
            refused("from(" + image + "), none kept", OneWhistle::new, x -> x.from(image), OneWhistle.NO, BY_NO);
        }
        for (int image : beyond(0, 1)) {
            refused("from(" + image + "), none kept", OneWhistle::new, x -> x.from(image), OneWhistle.BAD, BY_BAD);
        }
        promise = 5;
        for (int place : beyond(0, 4)) {
            refused("shut(" + place + ", false)", OneWhistle::new, x -> x.shut(place, false), OneWhistle.BAD, BY_BAD);
        }
    }

    // ---- STATUS

    /** However many of its numbers are not as told, a call is refused once. */
    private static void oneCountForManyWrongNumbers() {
        promise = 25;
        dogs = 3;
        bad("dog", x -> x.dog(9, -1, -1), OneWhistle.BAD);
        bad("pup", x -> x.pup(9, -1, -1, -1, -1, 9), OneWhistle.BAD);
        bad("put", x -> x.put(9, 99), OneWhistle.BAD);
        bad("goes", x -> x.goes(9, 9, 9, -1), OneWhistle.BAD);
        bad("run", x -> x.run(9, 9, -1, 99), OneWhistle.BAD);
        bad("meets", x -> x.meets(9, -1, 99), OneWhistle.BAD);
        bad("tame", x -> x.tame(-1, 9), BAD_SOUGHT);
        bad("neighbour", x -> x.neighbour(-1, 9, 9, 9), BAD_SOUGHT);
        bad("tells", x -> x.tells(9, 0, 9), BAD_SOUGHT);
        bad("which", x -> x.which(-1, 99, -1), OneWhistle.BAD);
        bad("starts", x -> x.starts(9, -1, 99, -1), OneWhistle.BAD);
        bad("drawn", x -> x.drawn(9, 99, 99), OneWhistle.BAD);
    }

    /** An object answers as told up to its 512th call. */
    private static void statusOfManyCalls() {
        promise = 25;
        List<ToLongFunction<OneWhistle>> refusals = new ArrayList<>();
        refusals.add(x -> x.places(1));
        refusals.add(x -> x.shut(0, false));
        refusals.add(x -> x.dog(0, 0, 0));
        for (int what = 0; what <= 2; what++) {
            OneWhistle x = new OneWhistle();
            for (int i = 0; i < 3; i++) {
                x.dog(0, 0, 0);
            }
            for (int call = 4; call < 512; call++) {
                refusals.get(what).applyAsLong(x);
            }
            due("status(" + what + ") as the 512th call", x.status(what), 508);
        }
    }
}
