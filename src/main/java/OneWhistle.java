import java.util.Arrays;

/**
 * One whistle for some dogs on a hill: where tunes bring them, which tunes bring them together, and what their
 * barks tell. The document numbers the promises; each public method stands for one of them.
 */
public final class OneWhistle {
    public static final int NONE = -1, BAD = -2, NO = -3, FULL = -4;

    private static final int FEWEST_PLACES = 2;
    private static final int MOST_PLACES = 5;
    private static final int MOST_DOGS = 3;
    private static final int MOST_BREATH = 9;
    private static final int MOST_LEARNS = 3;
    private static final int MOST_TEXT = 200;
    private static final int MOST_AHEAD = 99;
    private static final int MOST_DRAWN = 12;
    private static final int TENTHS = 10;
    private static final int IMAGE_COUNT = 2;

    /** A tune that is sought or run has at most so many whistles. */
    private static final int LONGEST_TUNE = 20;
    private static final int LONGEST_HEARD = 16;
    private static final int LONGEST_TELLING = 8;

    /** Sets of places are bits; there are so many sets at most. */
    private static final int SETS = 1 << MOST_PLACES;

    /**
     * How a dog goes depends on how many whistles were ahead; from 3 on only on whether they are odd, as no dog
     * learns later than that: so the times 0, 1, 2, the odd ones from 3 and the even ones from 4 are all the phases.
     */
    private static final int PHASES = 5;
    private static final int FIRST_STEADY = 3;

    /** Answers of the document beside its constants. */
    private static final int BAD_SOUGHT = -10;
    private static final int BAD_STATUS = -1;
    private static final int READ_FAULT = -10;
    private static final int UNTOLD = -5;

    private static final int KIND_PLAIN = 0;
    private static final int KIND_DEAF = 1;
    private static final int KIND_PUP = 2;
    private static final int KIND_KEEN = 3;
    private static final int KIND_STUBBORN = 4;

    private Hill hill = new Hill();
    private final Hill[] images = new Hill[IMAGE_COUNT];
    private final byte[] text = new byte[MOST_TEXT];
    private int textLength = 0;
    private long above = 0;
    private long below = 1;
    private int badCount = 0;
    private int noCount = 0;
    private int fullCount = 0;
    private final Chase chase = new Chase();
    private final Lane lane = new Lane();
    private final Teller teller = new Teller();
    private final long[] weights = new long[MOST_PLACES];
    private final long[] laterWeights = new long[MOST_PLACES];

    public OneWhistle() {
    }

    // ---- a hill

    public int places(int n) {
        if (n < FEWEST_PLACES || n > MOST_PLACES) {
            return refusedBad(BAD);
        }
        int before = hill.placeCount;
        hill.settle(n);
        return before;
    }

    public int dog(int kind, int row0, int row1) {
        if (!isRowsKind(kind) || !hill.isRow(row0) || !hill.isRow(row1)) {
            return refusedBad(BAD);
        }
        if (hill.isFull()) {
            return refusedFull();
        }
        return hill.addDog(bred(kind, row0, row1));
    }

    public int pup(int kind, int row0, int row1, int then0, int then1, int m) {
        if (!isLearningKind(kind) || m < 1 || m > MOST_LEARNS) {
            return refusedBad(BAD);
        }
        if (!hill.isRow(row0) || !hill.isRow(row1) || !hill.isRow(then0) || !hill.isRow(then1)) {
            return refusedBad(BAD);
        }
        if (hill.isFull()) {
            return refusedFull();
        }
        return hill.addDog(bredLearning(kind, row0, row1, then0, then1, m));
    }

    public int shut(int place, boolean is) {
        if (!hill.isPlace(place)) {
            return refusedBad(BAD);
        }
        if (holds(hill.shutBits, place) == is) {
            return refusedNo();
        }
        hill.shutBits ^= 1 << place;
        return 1;
    }

    public int put(int what, int v) {
        if (!canPut(what, v)) {
            return refusedBad(BAD);
        }
        int before;
        switch (what) {
            case 0:
                before = hill.goal;
                hill.goal = v;
                break;
            case 1:
                before = hill.barkBits;
                hill.barkBits = v;
                break;
            case 2:
                before = hill.breath0;
                hill.breath0 = v;
                break;
            default:
                before = hill.breath1;
                hill.breath1 = v;
                break;
        }
        return before;
    }

    public int type(long v, int n) {
        if (n < 1 || n > 8) {
            return refusedBad(BAD);
        }
        if (textLength + n > MOST_TEXT) {
            return refusedFull();
        }
        for (int i = n - 1; i >= 0; i--) {
            text[textLength] = (byte) (v >>> (8 * i));
            textLength++;
        }
        return textLength;
    }

    public int clear() {
        int before = textLength;
        textLength = 0;
        return before;
    }

    public int read() {
        Reader reader = new Reader(text, textLength);
        reader.readHill();
        if (reader.fault != NONE) {
            return READ_FAULT - reader.fault;
        }
        hill = reader.told;
        return hill.dogCount;
    }

    public int goes(int dog, int place, int whistle, int t) {
        Plain goer = hill.dogAt(dog);
        if (goer == null || !hill.isPlace(place) || whistle < 0 || whistle > 1 || t < 0 || t > MOST_AHEAD) {
            return refusedBad(BAD);
        }
        return goer.next(place, whistle, t, hill.shutBits);
    }

    // ---- tunes

    public int run(int dog, int place, int tune, int n) {
        Plain runner = hill.dogAt(dog);
        if (runner == null || !hill.isPlace(place) || !isTune(tune, n)) {
            return refusedBad(BAD);
        }
        return runner.behind(place, tune, n, hill.shutBits);
    }

    public int meets(int dog, int tune, int n) {
        Plain runner = hill.dogAt(dog);
        if (runner == null || !isTune(tune, n)) {
            return refusedBad(BAD);
        }
        int met = 0;
        for (int place = 0; place < hill.placeCount; place++) {
            met |= 1 << runner.behind(place, tune, n, hill.shutBits);
        }
        return met;
    }

    public int tame(int dogs, int what) {
        if (!hill.areDogs(dogs) || what < 0 || what > 1) {
            return refusedBad(BAD_SOUGHT);
        }
        chase.follow(hill, dogs, hill.shutBits);
        return chase.seek(1, 1) ? chase.shortest(what) : NONE;
    }

    public int quiet(int dogs) {
        if (!hill.areDogs(dogs)) {
            return refusedBad(BAD);
        }
        chase.follow(hill, dogs, hill.shutBits);
        return chase.seek(hill.breath0, hill.breath1) ? chase.leastBreathFound() : NONE;
    }

    public int apart(int dog) {
        Plain walker = hill.dogAt(dog);
        if (walker == null) {
            return refusedBad(BAD);
        }
        lane.learn(walker, hill.placeCount, hill.shutBits);
        lane.findMeetings();
        for (int lesser = 0; lesser < hill.placeCount; lesser++) {
            for (int other = lesser + 1; other < hill.placeCount; other++) {
                if (!lane.canMeet(lesser, other)) {
                    return 10 * lesser + other;
                }
            }
        }
        return NONE;
    }

    public int shuts(int dogs) {
        if (!hill.areDogs(dogs)) {
            return refusedBad(BAD);
        }
        int all = hill.allPlaces();
        for (int size = 0; size < hill.placeCount; size++) {
            for (int set = 0; set <= all; set++) {
                if (Integer.bitCount(set) != size || holds(set, hill.goal)) {
                    continue;
                }
                chase.follow(hill, dogs, set);
                if (chase.seek(1, 1)) {
                    return set;
                }
            }
        }
        return NONE;
    }

    public int neighbour(int dogs, int dog, int place, int what) {
        Plain stranger = hill.dogAt(dog);
        if (stranger == null || !hill.areDogs(dogs) || holds(dogs, dog)) {
            return refusedBad(BAD_SOUGHT);
        }
        if (!hill.isPlace(place) || what < 0 || what > 1) {
            return refusedBad(BAD_SOUGHT);
        }
        chase.follow(hill, dogs, hill.shutBits);
        chase.addLane(stranger, hill, hill.shutBits, 1 << place, 1 << place);
        return chase.seek(1, 1) ? chase.shortest(what) : NONE;
    }

    // ---- barks

    public int tells(int dog, int places, int what) {
        Plain barker = hill.dogAt(dog);
        if (barker == null || places < 1 || places > hill.allPlaces() || what < 0 || what > 2) {
            return refusedBad(BAD_SOUGHT);
        }
        lane.learn(barker, hill.placeCount, hill.shutBits);
        teller.weigh(lane, hill.allPlaces(), hill.barkBits);
        int barked = places & hill.barkBits;
        int still = places & ~hill.barkBits;
        if (what == 1) {
            return teller.firstWhistle(lane, barked);
        }
        if (what == 2) {
            return teller.firstWhistle(lane, still);
        }
        int worst = Math.max(teller.fewestFor(0, barked), teller.fewestFor(0, still));
        return worst == Teller.NEVER ? NONE : worst;
    }

    public int which(int tune, int n, int barks) {
        if (!isHeard(tune, n, barks)) {
            return refusedBad(BAD);
        }
        int dogs = 0;
        for (int i = 0; i < hill.dogCount; i++) {
            Plain barker = hill.dogAt(i);
            if (barker != null && origins(barker, tune, n, barks) != 0) {
                dogs |= 1 << i;
            }
        }
        return dogs;
    }

    public int starts(int dog, int tune, int n, int barks) {
        Plain barker = hill.dogAt(dog);
        if (barker == null || !isHeard(tune, n, barks)) {
            return refusedBad(BAD);
        }
        return origins(barker, tune, n, barks);
    }

    public int drawn(int dog, int n, int w) {
        Plain drawer = hill.dogAt(dog);
        if (drawer == null || n < 0 || n > MOST_DRAWN || w < 0 || w > TENTHS) {
            return refusedBad(BAD);
        }
        long all = hill.placeCount;
        Arrays.fill(weights, 1L);
        for (int t = 0; t < n; t++) {
            drawOne(drawer, t, w);
            all *= TENTHS;
        }
        keepFraction(hill.isPlace(hill.goal) ? weights[hill.goal] : 0L, all);
        return 1;
    }

    // ---- what there is

    public long part(int what) {
        if (what < 0 || what > 1) {
            return refusedBad(BAD);
        }
        return what == 0 ? above : below;
    }

    public int image(int i) {
        if (i < 0 || i >= IMAGE_COUNT) {
            return refusedBad(BAD);
        }
        images[i] = hill.copy();
        return 1;
    }

    public int from(int i) {
        if (i < 0 || i >= IMAGE_COUNT) {
            return refusedBad(BAD);
        }
        Hill kept = images[i];
        if (kept == null) {
            return refusedNo();
        }
        hill = kept.copy();
        return 1;
    }

    public int status(int what) {
        switch (what) {
            case 0:
                return badCount;
            case 1:
                return noCount;
            case 2:
                return fullCount;
            default:
                return refusedBad(BAD_STATUS);
        }
    }

    public int count(int what) {
        switch (what) {
            case 0:
                return hill.placeCount;
            case 1:
                return hill.dogCount;
            case 2:
                return Integer.bitCount(hill.shutBits);
            case 3:
                return textLength;
            default:
                return refusedBad(BAD);
        }
    }

    public long digest() {
        long h = 661;
        h = 31 * h + hill.placeCount;
        h = 31 * h + hill.dogCount;
        h = 31 * h + Integer.bitCount(hill.shutBits);
        h = 31 * h + textLength;
        for (int i = 0; i < hill.dogCount; i++) {
            Plain told = hill.dogAt(i);
            if (told != null) {
                h = told.digested(h);
            }
        }
        h = 31 * h + hill.shutBits;
        h = 31 * h + hill.goal;
        h = 31 * h + hill.barkBits;
        h = 31 * h + hill.breath0;
        h = 31 * h + hill.breath1;
        h = 31 * h + above;
        return 31 * h + below;
    }

    // ---- what the calls share

    private int refusedBad(int answer) {
        badCount++;
        return answer;
    }

    private int refusedNo() {
        noCount++;
        return NO;
    }

    private int refusedFull() {
        fullCount++;
        return FULL;
    }

    private boolean canPut(int what, int v) {
        switch (what) {
            case 0:
                return hill.isPlace(v);
            case 1:
                return v >= 0 && v <= hill.allPlaces();
            case 2:
            case 3:
                return v >= 1 && v <= MOST_BREATH;
            default:
                return false;
        }
    }

    private static boolean isTune(int tune, int n) {
        return n >= 0 && n <= LONGEST_TUNE && areBits(tune, n);
    }

    private static boolean isHeard(int tune, int n, int barks) {
        return n >= 1 && n <= LONGEST_HEARD && areBits(tune, n) && areBits(barks, n);
    }

    private static boolean areBits(int bits, int n) {
        return bits >= 0 && (bits >> n) == 0;
    }

    private static boolean holds(int bits, int i) {
        return ((bits >> i) & 1) != 0;
    }

    private int origins(Plain barker, int tune, int n, int barks) {
        int found = 0;
        for (int place = 0; place < hill.placeCount; place++) {
            if (soundsSo(barker, place, tune, n, barks)) {
                found |= 1 << place;
            }
        }
        return found;
    }

    private boolean soundsSo(Plain barker, int start, int tune, int n, int barks) {
        int place = start;
        for (int t = 0; t < n; t++) {
            place = barker.next(place, (tune >> t) & 1, t, hill.shutBits);
            if (holds(hill.barkBits, place) != holds(barks, t)) {
                return false;
            }
        }
        return true;
    }

    /** One whistle more: weights are whole, each whistle making them ten times as many in all. */
    private void drawOne(Plain drawer, int t, int w) {
        Arrays.fill(laterWeights, 0L);
        for (int place = 0; place < hill.placeCount; place++) {
            int by0 = drawer.next(place, 0, t, hill.shutBits);
            int by1 = drawer.next(place, 1, t, hill.shutBits);
            if (hill.isPlace(by0) && hill.isPlace(by1)) {
                laterWeights[by0] += (TENTHS - w) * weights[place];
                laterWeights[by1] += w * weights[place];
            }
        }
        System.arraycopy(laterWeights, 0, weights, 0, MOST_PLACES);
    }

    private void keepFraction(long part, long whole) {
        long divisor = commonDivisor(part, whole);
        if (divisor > 0) {
            above = part / divisor;
            below = whole / divisor;
        }
    }

    private static long commonDivisor(long first, long second) {
        long a = first;
        long b = second;
        // Euclid's remainders at least halve in two rounds, so 128 rounds are enough for any long.
        for (int round = 0; round < 128 && b != 0; round++) {
            long rest = a % b;
            a = b;
            b = rest;
        }
        return a;
    }

    // ---- dogs

    private static boolean isRowsKind(int kind) {
        return kind == KIND_PLAIN || kind == KIND_DEAF || kind == KIND_STUBBORN;
    }

    private static boolean isLearningKind(int kind) {
        return kind == KIND_PUP || kind == KIND_KEEN;
    }

    private static Plain bred(int kind, int row0, int row1) {
        if (kind == KIND_DEAF) {
            return new Deaf(kind, row0, row1);
        }
        if (kind == KIND_STUBBORN) {
            return new Stubborn(kind, row0, row1);
        }
        return new Plain(kind, row0, row1);
    }

    private static Plain bredLearning(int kind, int row0, int row1, int then0, int then1, int m) {
        if (kind == KIND_KEEN) {
            return new Keen(kind, row0, row1, then0, then1, m);
        }
        return new Pup(kind, row0, row1, then0, then1, m);
    }

    /** A dog that goes by its rows, and what all kinds share. */
    private static class Plain {
        final int kind;
        final int row0;
        final int row1;

        Plain(int kind, int row0, int row1) {
            this.kind = kind;
            this.row0 = row0;
            this.row1 = row1;
        }

        /** Where it goes from a place at a whistle, t whistles ahead. */
        int next(int place, int whistle, int t, int shutBits) {
            return byRows(place, whistle, t, shutBits);
        }

        /** One going by the rows that it has at that time, whatever its kind makes of it. */
        final int byRows(int place, int whistle, int t, int shutBits) {
            int to = (rowFor(whistle, t) >> (3 * place)) & 7;
            return holds(shutBits, to) ? place : to;
        }

        int rowFor(int whistle, int t) {
            return whistle == 0 ? row0 : row1;
        }

        /** Whether an odd number ahead makes it go otherwise, however long the tune. */
        boolean heedsOdd() {
            return false;
        }

        final int behind(int start, int tune, int n, int shutBits) {
            int place = start;
            for (int t = 0; t < n; t++) {
                place = next(place, (tune >> t) & 1, t, shutBits);
            }
            return place;
        }

        long digested(long before) {
            return withLearnt(withRows(before), 0, 0, 0);
        }

        final long withRows(long before) {
            long h = 31 * before + kind;
            h = 31 * h + row0;
            return 31 * h + row1;
        }

        static long withLearnt(long before, int then0, int then1, int m) {
            long h = 31 * before + then0;
            h = 31 * h + then1;
            return 31 * h + m;
        }
    }

    /** Stays when an odd number was ahead. */
    private static class Deaf extends Plain {
        Deaf(int kind, int row0, int row1) {
            super(kind, row0, row1);
        }

        int next(int place, int whistle, int t, int shutBits) {
            return (t & 1) != 0 ? place : byRows(place, whistle, t, shutBits);
        }

        boolean heedsOdd() {
            return true;
        }
    }

    /** Stays when an even number was ahead, and else goes as a plain dog does, not as a deaf one. */
    private static final class Stubborn extends Deaf {
        Stubborn(int kind, int row0, int row1) {
            super(kind, row0, row1);
        }

        int next(int place, int whistle, int t, int shutBits) {
            return (t & 1) == 0 ? place : byRows(place, whistle, t, shutBits);
        }
    }

    /** Goes by two other rows once m were ahead. */
    private static class Pup extends Plain {
        final int then0;
        final int then1;
        final int m;

        Pup(int kind, int row0, int row1, int then0, int then1, int m) {
            super(kind, row0, row1);
            this.then0 = then0;
            this.then1 = then1;
            this.m = m;
        }

        int rowFor(int whistle, int t) {
            if (t < m) {
                return whistle == 0 ? row0 : row1;
            }
            return whistle == 0 ? then0 : then1;
        }

        long digested(long before) {
            return withLearnt(withRows(before), then0, then1, m);
        }
    }

    /** A pup that goes twice at a whistle once it has learnt. */
    private static final class Keen extends Pup {
        Keen(int kind, int row0, int row1, int then0, int then1, int m) {
            super(kind, row0, row1, then0, then1, m);
        }

        int next(int place, int whistle, int t, int shutBits) {
            int once = byRows(place, whistle, t, shutBits);
            return t < m ? once : byRows(once, whistle, t, shutBits);
        }
    }

    // ---- the hill

    /** All that an image keeps. */
    private static final class Hill {
        int placeCount = MOST_PLACES;
        int shutBits = 0;
        int goal = 0;
        int barkBits = 0;
        int breath0 = 1;
        int breath1 = 1;
        int dogCount = 0;
        final Plain[] dogs = new Plain[MOST_DOGS];

        Hill copy() {
            Hill other = new Hill();
            other.placeCount = placeCount;
            other.shutBits = shutBits;
            other.goal = goal;
            other.barkBits = barkBits;
            other.breath0 = breath0;
            other.breath1 = breath1;
            other.dogCount = dogCount;
            for (int i = 0; i < MOST_DOGS; i++) {
                other.dogs[i] = dogs[i];
            }
            return other;
        }

        /** The rows of the dogs and the bits fit the old places alone, so these go; breath stays. */
        void settle(int n) {
            placeCount = n;
            shutBits = 0;
            goal = 0;
            barkBits = 0;
            dogCount = 0;
        }

        boolean isPlace(int place) {
            return place >= 0 && place < placeCount;
        }

        int allPlaces() {
            return (1 << placeCount) - 1;
        }

        /** A row has a place for each place as a figure to the base 8, and nothing beyond the last. */
        boolean isRow(int row) {
            if (row < 0 || (row >> (3 * placeCount)) != 0) {
                return false;
            }
            for (int place = 0; place < placeCount; place++) {
                if (((row >> (3 * place)) & 7) >= placeCount) {
                    return false;
                }
            }
            return true;
        }

        boolean isFull() {
            return dogCount >= MOST_DOGS;
        }

        int addDog(Plain dog) {
            if (dogCount < MOST_DOGS) {
                dogs[dogCount] = dog;
                dogCount++;
            }
            return dogCount - 1;
        }

        Plain dogAt(int i) {
            return i >= 0 && i < dogCount ? dogs[i] : null;
        }

        boolean areDogs(int bits) {
            return areBits(bits, dogCount);
        }
    }

    // ---- the text

    /** Reads a text into a hill of its own; the first token that can not stand is kept, and nothing is taken behind it. */
    private static final class Reader {
        private static final int END = 0;
        private static final int WORD = 1;
        private static final int FIGURES = 2;
        private static final int MARK = 3;
        private static final int STRANGE = 4;

        final Hill told = new Hill();
        int fault = NONE;

        private final byte[] text;
        private final int length;
        private int kind = END;
        private int start = 0;
        private int end = 0;

        Reader(byte[] text, int length) {
            this.text = text;
            this.length = length;
        }

        void readHill() {
            advance();
            if (!isWord("places")) {
                fail();
                return;
            }
            advance();
            int n = takeNumber(FEWEST_PLACES, MOST_PLACES);
            takeMark();
            if (fault != NONE) {
                return;
            }
            told.settle(n);
            // An item has bytes of its own, so there are no more items than bytes.
            for (int item = 0; item < MOST_TEXT && kind != END && fault == NONE; item++) {
                readItem();
            }
        }

        private void readItem() {
            if (isWord("shut")) {
                advance();
                told.shutBits |= takePlaceBit();
            } else if (isWord("goal")) {
                advance();
                told.goal = takeNumber(0, told.placeCount - 1);
            } else if (isWord("barks")) {
                advance();
                told.barkBits |= takePlaceBit();
            } else if (isWord("breath")) {
                advance();
                readBreath();
            } else if (isWord("dog") && !told.isFull()) {
                advance();
                readDog();
            } else {
                fail();
            }
            takeMark();
        }

        private void readBreath() {
            int whistle = takeNumber(0, 1);
            int breath = takeNumber(1, MOST_BREATH);
            if (whistle == 0) {
                told.breath0 = breath;
            } else {
                told.breath1 = breath;
            }
        }

        private void readDog() {
            int dogKind = takeNumber(KIND_PLAIN, KIND_STUBBORN);
            int row0 = takeRow();
            int row1 = takeRow();
            if (isRowsKind(dogKind)) {
                told.addDog(bred(dogKind, row0, row1));
                return;
            }
            int then0 = takeRow();
            int then1 = takeRow();
            int m = takeNumber(1, MOST_LEARNS);
            told.addDog(bredLearning(dogKind, row0, row1, then0, then1, m));
        }

        /** The number that stands here; behind a fault what is answered no longer counts. */
        private int takeNumber(int least, int most) {
            if (kind != FIGURES || end - start != 1) {
                fail();
                return least;
            }
            int value = byteAt(start) - '0';
            if (value < least || value > most) {
                fail();
                return least;
            }
            advance();
            return value;
        }

        private int takePlaceBit() {
            return 1 << takeNumber(0, told.placeCount - 1);
        }

        private int takeRow() {
            if (kind != WORD || end - start != told.placeCount) {
                fail();
                return 0;
            }
            int row = 0;
            for (int place = 0; place < told.placeCount; place++) {
                int to = byteAt(start + place) - 'a';
                if (!told.isPlace(to)) {
                    fail();
                    return 0;
                }
                row |= to << (3 * place);
            }
            advance();
            return row;
        }

        private void takeMark() {
            if (kind == MARK) {
                advance();
            } else {
                fail();
            }
        }

        private void fail() {
            if (fault == NONE) {
                fault = start;
            }
        }

        private boolean isWord(String word) {
            if (kind != WORD || end - start != word.length()) {
                return false;
            }
            for (int i = 0; i < word.length(); i++) {
                if (byteAt(start + i) != word.charAt(i)) {
                    return false;
                }
            }
            return true;
        }

        /** Goes to the next token; behind a fault it stays, so that nothing more is read. */
        private void advance() {
            if (fault != NONE) {
                return;
            }
            start = end;
            while (start < length && byteAt(start) == ' ') {
                start++;
            }
            end = start;
            kind = kindOf(byteAt(start));
            if (kind == END) {
                return;
            }
            end++;
            if (kind == WORD || kind == FIGURES) {
                while (end < length && kindOf(byteAt(end)) == kind) {
                    end++;
                }
            }
        }

        private static int kindOf(int sign) {
            if (sign < 0) {
                return END;
            }
            if (sign >= 'a' && sign <= 'z') {
                return WORD;
            }
            if (sign >= '0' && sign <= '9') {
                return FIGURES;
            }
            return sign == ';' ? MARK : STRANGE;
        }

        /** The byte as 0 to 255; NONE beyond the text. */
        private int byteAt(int i) {
            return i >= 0 && i < length && i < text.length ? text[i] & 255 : NONE;
        }
    }

    // ---- sets of places

    private static int phaseOf(int t) {
        return t < FIRST_STEADY ? t : 4 - (t & 1);
    }

    private static int lowestBitIndex(int bits) {
        return Integer.bitCount((bits & -bits) - 1);
    }

    /** One dog, followed as the set of all places where it may be. */
    private static final class Lane {
        /** By phase, whistle and set: the set behind that whistle. */
        private final int[] steps = new int[PHASES * 2 * SETS];
        /** By time and set: at which times (bits) some tune can have brought it to its target. */
        private final int[] ends = new int[(LONGEST_TUNE + 1) * SETS];
        /** By phase: the sets (a bit each) from all of whose places a dog can come to one place. */
        private final int[] meetings = new int[PHASES];
        private int setCount = 0;

        void learn(Plain dog, int placeCount, int shutBits) {
            setCount = Math.min(1 << placeCount, SETS);
            for (int phase = 0; phase < PHASES; phase++) {
                for (int whistle = 0; whistle < 2; whistle++) {
                    int row = rowOf(phase, whistle);
                    for (int place = 0; place < placeCount && place < MOST_PLACES; place++) {
                        // A phase is one of its own times.
                        steps[row + (1 << place)] = 1 << dog.next(place, whistle, phase, shutBits);
                    }
                    joinSets(row);
                }
            }
        }

        private void joinSets(int row) {
            for (int set = 1; set < setCount; set++) {
                int low = set & -set;
                steps[row + set] = steps[row + low] | steps[row + (set ^ low)];
            }
        }

        private static int rowOf(int phase, int whistle) {
            return (phase * 2 + whistle) * SETS;
        }

        int behind(int t, int whistle, int set) {
            int i = rowOf(phaseOf(t), whistle) + set;
            return i >= 0 && i < steps.length ? steps[i] : 0;
        }

        void findEnds(int target) {
            int last = LONGEST_TUNE * SETS;
            for (int set = 1; set < setCount; set++) {
                ends[last + set] = set == target ? 1 << LONGEST_TUNE : 0;
            }
            for (int t = LONGEST_TUNE - 1; t >= 0; t--) {
                int by0 = rowOf(phaseOf(t), 0);
                int by1 = rowOf(phaseOf(t), 1);
                int now = t * SETS;
                int later = now + SETS;
                for (int set = 1; set < setCount; set++) {
                    int here = set == target ? 1 << t : 0;
                    ends[now + set] = here | ends[later + steps[by0 + set]] | ends[later + steps[by1 + set]];
                }
            }
        }

        int endsFrom(int t, int set) {
            int i = t * SETS + set;
            return i >= 0 && i < ends.length ? ends[i] : 0;
        }

        void findMeetings() {
            int single = 0;
            for (int set = 1; set < setCount; set++) {
                single |= Integer.bitCount(set) == 1 ? 1 << set : 0;
            }
            Arrays.fill(meetings, single);
            boolean grown = true;
            // Each round but the last adds a set at least, so there are no more rounds than sets.
            for (int round = 0; round <= PHASES * SETS && grown; round++) {
                grown = growMeetings();
            }
        }

        private boolean growMeetings() {
            boolean grown = false;
            for (int phase = PHASES - 1; phase >= 0; phase--) {
                int before = meetings[phase];
                int later = meetings[phaseOf(phase + 1)];
                for (int set = 1; set < setCount; set++) {
                    if (holds(later, behind(phase, 0, set)) || holds(later, behind(phase, 1, set))) {
                        meetings[phase] |= 1 << set;
                    }
                }
                grown |= meetings[phase] != before;
            }
            return grown;
        }

        boolean canMeet(int place, int other) {
            return holds(meetings[0], (1 << place) | (1 << other));
        }
    }

    // ---- the search for a tune

    /**
     * Seeks the tune of least breath, and of like ones the first, that brings all lanes to their targets at one time.
     * It goes time by time over what is called a pack: the sets of all lanes, 5 bits each.
     */
    private static final class Chase {
        private static final int PACK_BITS = MOST_PLACES * MOST_DOGS;
        /** No time has more: 31 * 31 * 31 packs, each leading to two. */
        private static final int MOST_ENTRIES = 1 << 16;
        private static final int FIRST_ENTRIES = 32;

        private final Lane[] lanes = {new Lane(), new Lane(), new Lane()};
        private final Seen seen = new Seen();
        private int laneCount = 0;
        private int startPack = 0;
        private boolean heedsOdd = false;

        /** An entry has its pack in the lowest bits, then the tune that led there, then its breath. */
        private long[] entries = new long[FIRST_ENTRIES];
        private long[] later = new long[FIRST_ENTRIES];
        private int laterCount = 0;

        private int leastBreath = 1;
        private int foundBreath = Seen.UNSEEN;
        private int foundTune = 0;

        /** The dogs of the set from everywhere to the goal, with these places shut. */
        void follow(Hill hill, int dogs, int shutBits) {
            laneCount = 0;
            startPack = 0;
            heedsOdd = false;
            for (int i = 0; i < MOST_DOGS; i++) {
                Plain dog = hill.dogAt(i);
                if (dog != null && holds(dogs, i)) {
                    addLane(dog, hill, shutBits, hill.allPlaces(), 1 << hill.goal);
                }
            }
        }

        void addLane(Plain dog, Hill hill, int shutBits, int start, int target) {
            if (laneCount >= MOST_DOGS) {
                return;
            }
            Lane lane = lanes[laneCount];
            lane.learn(dog, hill.placeCount, shutBits);
            lane.findEnds(target);
            startPack |= start << (MOST_PLACES * laneCount);
            heedsOdd |= dog.heedsOdd();
            laneCount++;
        }

        /** Whether there is such a tune. */
        boolean seek(int breath0, int breath1) {
            seen.forget();
            leastBreath = Math.min(breath0, breath1);
            foundBreath = Seen.UNSEEN;
            foundTune = 0;
            laterCount = 0;
            offer(0, startPack, 0, 0);
            for (int t = 0; t < LONGEST_TUNE && laterCount > 0; t++) {
                int entryCount = takeLater(t);
                for (int i = 0; i < entryCount && i < entries.length; i++) {
                    whistleOn(t, entries[i], breath0, breath1);
                }
            }
            return foundBreath != Seen.UNSEEN;
        }

        int leastBreathFound() {
            return foundBreath;
        }

        /** Behind a search with a breath of 1 each, where the breath is how many whistles there are. */
        int shortest(int what) {
            return what == 0 ? foundBreath : foundTune;
        }

        /**
         * What was come to at this time is to go on from, but for what was come to with less breath at the same time.
         * That is told ahead of the next time's first offer: who comes later with less breath has fewer whistles left,
         * and so can not stand for who was there earlier.
         */
        private int takeLater(int t) {
            long[] emptied = entries;
            entries = later;
            later = emptied;
            int kept = 0;
            for (int i = 0; i < laterCount && i < entries.length; i++) {
                long entry = entries[i];
                if (t < FIRST_STEADY || breathOf(entry) <= seen.leastFor(keyOf(t, packOf(entry)))) {
                    entries[kept] = entry;
                    kept++;
                }
            }
            laterCount = 0;
            return kept;
        }

        private void whistleOn(int t, long entry, int breath0, int breath1) {
            int pack = packOf(entry);
            int tune = tuneOf(entry);
            int breath = breathOf(entry);
            offer(t + 1, packBehind(t, 0, pack), tune, breath + breath0);
            offer(t + 1, packBehind(t, 1, pack), tune | (1 << t), breath + breath1);
        }

        private static int packOf(long entry) {
            return (int) entry & ((1 << PACK_BITS) - 1);
        }

        private static int tuneOf(long entry) {
            return (int) (entry >> PACK_BITS) & ((1 << LONGEST_TUNE) - 1);
        }

        private static int breathOf(long entry) {
            return (int) (entry >> (PACK_BITS + LONGEST_TUNE));
        }

        private int packBehind(int t, int whistle, int pack) {
            int behind = 0;
            for (int i = 0; i < laneCount; i++) {
                int shift = MOST_PLACES * i;
                behind |= lanes[i].behind(t, whistle, (pack >> shift) & (SETS - 1)) << shift;
            }
            return behind;
        }

        /** A pack that was come to: it is found, or kept to go on from, or of no use. */
        private void offer(int t, int pack, int tune, int breath) {
            int ends = -1;
            for (int i = 0; i < laneCount; i++) {
                ends &= lanes[i].endsFrom(t, (pack >> (MOST_PLACES * i)) & (SETS - 1));
            }
            // Each dog alone tells when it can be at its target; without a time in common they never are together.
            if (ends == 0) {
                return;
            }
            int whistlesLeft = lowestBitIndex(ends) - t;
            if (breath + whistlesLeft * leastBreath >= foundBreath) {
                return;
            }
            if (whistlesLeft == 0) {
                foundBreath = breath;
                foundTune = tune;
            } else if (t < FIRST_STEADY || seen.isLess(keyOf(t, pack), breath)) {
                keep(pack, tune, breath);
            }
        }

        /** Times of one key are alike for these dogs: who came there earlier, with no more breath, can do as much. */
        private int keyOf(int t, int pack) {
            return 2 * pack + (heedsOdd ? t & 1 : 0);
        }

        private void keep(int pack, int tune, int breath) {
            if (laterCount >= MOST_ENTRIES) {
                return;
            }
            if (laterCount >= later.length) {
                later = Arrays.copyOf(later, 2 * later.length);
            }
            later[laterCount] = ((((long) breath << LONGEST_TUNE) | tune) << PACK_BITS) | pack;
            laterCount++;
        }
    }

    /** The least breath that a search had at each key; hashed, as it comes to few of the keys that there are. */
    private static final class Seen {
        static final int UNSEEN = 1 << 20;

        private static final int KEY_BITS = 16;
        private static final int BREATH_BITS = 8;
        private static final int FIRST_SLOTS = 64;
        /** Twice as many as there are keys. */
        private static final int MOST_SLOTS = 1 << (KEY_BITS + 1);

        /** A slot has its breath in the lowest bits, then its key, then the number of the search. */
        private long[] slots = new long[FIRST_SLOTS];
        private int used = 0;
        private long search = 0;

        /** What an earlier search wrote counts as empty, so that nothing need be wiped. */
        void forget() {
            search++;
            used = 0;
        }

        int leastFor(int key) {
            long slot = slots[slotFor(key)];
            return isOurs(slot) ? breathOf(slot) : UNSEEN;
        }

        /** Whether it is less than what was there, and then keeps it. */
        boolean isLess(int key, int breath) {
            int i = slotFor(key);
            boolean isNew = !isOurs(slots[i]);
            if (!isNew && breath >= breathOf(slots[i])) {
                return false;
            }
            slots[i] = (((search << KEY_BITS) | key) << BREATH_BITS) | breath;
            if (isNew) {
                used++;
                grow();
            }
            return true;
        }

        private boolean isOurs(long slot) {
            return slot >> (KEY_BITS + BREATH_BITS) == search;
        }

        private static int breathOf(long slot) {
            return (int) slot & ((1 << BREATH_BITS) - 1);
        }

        private static int keyOf(long slot) {
            return (int) (slot >> BREATH_BITS) & ((1 << KEY_BITS) - 1);
        }

        /** Where the key is, or else the empty slot where it belongs; half of the slots are always empty. */
        private int slotFor(int key) {
            int mask = slots.length - 1;
            int i = (key * 40503 >>> 4) & mask;
            for (int tried = 0; tried < mask && isOurs(slots[i]) && keyOf(slots[i]) != key; tried++) {
                i = (i + 1) & mask;
            }
            return i;
        }

        private void grow() {
            if (2 * used <= slots.length || slots.length >= MOST_SLOTS) {
                return;
            }
            long[] old = slots;
            slots = new long[2 * old.length];
            for (int i = 0; i < old.length; i++) {
                if (isOurs(old[i])) {
                    slots[slotFor(keyOf(old[i]))] = old[i];
                }
            }
        }
    }

    // ---- telling by barks

    /** How many whistles tell where a dog was, which may now be at each place of a set. */
    private static final class Teller {
        static final int NEVER = 99;

        /** By time and set: the fewest whistles at worst, of those that are left. */
        private final int[] fewest = new int[(LONGEST_TELLING + 1) * SETS];
        private int barkBits = 0;

        void weigh(Lane lane, int allPlaces, int barks) {
            barkBits = barks;
            for (int t = LONGEST_TELLING; t >= 0; t--) {
                for (int set = 0; set <= allPlaces; set++) {
                    int needed = Integer.bitCount(set) <= 1 ? 0 : NEVER;
                    if (needed == NEVER && t < LONGEST_TELLING) {
                        needed = Math.min(neededBy(lane, t, 0, set), neededBy(lane, t, 1, set));
                    }
                    fewest[t * SETS + set] = needed;
                }
            }
        }

        int fewestFor(int t, int set) {
            int i = t * SETS + set;
            return i >= 0 && i < fewest.length ? fewest[i] : NEVER;
        }

        private int neededBy(Lane lane, int t, int whistle, int set) {
            int to = lane.behind(t, whistle, set);
            // Two that come to one place bark alike ever after.
            if (Integer.bitCount(to) < Integer.bitCount(set)) {
                return NEVER;
            }
            int worst = Math.max(fewestFor(t + 1, to & barkBits), fewestFor(t + 1, to & ~barkBits));
            return worst == NEVER ? NEVER : worst + 1;
        }

        int firstWhistle(Lane lane, int set) {
            if (Integer.bitCount(set) <= 1) {
                return NONE;
            }
            if (fewestFor(0, set) == NEVER) {
                return UNTOLD;
            }
            return neededBy(lane, 0, 0, set) <= neededBy(lane, 0, 1, set) ? 0 : 1;
        }
    }
}
