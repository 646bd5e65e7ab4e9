import java.math.BigInteger;
import java.util.ArrayList;
import java.util.Arrays;
import java.util.List;
import java.util.Random;
import java.util.regex.Matcher;
import java.util.regex.Pattern;

/**
 * Random runs of calls on the class and on a slow model of the document, which goes through tunes, tuples of places
 * and partitions one by one. Every answer must be the same, and the digest after each call.
 */
public final class ModelTest {
    private static final String[] CALLS = {"places", "dog", "pup", "shut", "put", "text", "read", "goes", "run", "meets",
        "tame", "quiet", "apart", "shuts", "neighbour", "tells", "which", "starts", "drawn", "part", "image", "from",
        "status", "count", "type", "clear"};

    private static int wrong = 0;

    public static void main(String[] args) {
        long seed = args.length > 0 ? Long.parseLong(args[0]) : 1;
        int runs = args.length > 1 ? Integer.parseInt(args[1]) : 200;
        for (int i = 0; i < runs && wrong < 20; i++) {
            oneRun(new Random(seed * 1_000_003 + i), i);
        }
        System.out.println(wrong == 0 ? "the model agrees" : wrong + " answers are not the model's");
        if (wrong != 0) {
            System.exit(1);
        }
    }

    private static void oneRun(Random random, int number) {
        OneWhistle real = new OneWhistle();
        Model model = new Model();
        StringBuilder log = new StringBuilder();
        int calls = 0;
        while (calls < 400) {
            String call = CALLS[random.nextInt(CALLS.length)];
            if (call.equals("places") && random.nextInt(4) != 0) {
                continue;
            }
            if (call.equals("shuts") && random.nextInt(2) != 0) {
                continue;
            }
            if (call.equals("text")) {
                calls += typeText(real, model, HillText.random(random), log);
                continue;
            }
            long[] a = arguments(call, random, model);
            long got = callReal(real, call, a);
            long want = model.call(call, a);
            log.append(call).append(Arrays.toString(a)).append("=").append(want).append(' ');
            long digest = real.digest();
            calls += 2;
            if (got != want || digest != model.digest()) {
                wrong++;
                System.out.println("run " + number + ": " + call + Arrays.toString(a) + " answered " + got + ", due is "
                    + want + ", digests " + digest + " " + model.digest() + "\n  behind " + log);
                return;
            }
        }
    }

    private static int typeText(OneWhistle real, Model model, String text, StringBuilder log) {
        real.clear();
        model.call("clear", new long[0]);
        int calls = 1;
        for (int i = 0; i < text.length(); i += 8) {
            String part = text.substring(i, Math.min(text.length(), i + 8));
            long v = 0;
            for (char sign : part.toCharArray()) {
                v = (v << 8) | sign;
            }
            long got = real.type(v, part.length());
            long want = model.call("type", new long[] {v, part.length()});
            calls++;
            if (got != want) {
                wrong++;
                System.out.println("type answered " + got + ", due is " + want);
            }
        }
        int got = real.read();
        long want = model.call("read", new long[0]);
        log.append("read<").append(text).append(">=").append(want).append(' ');
        if (got != want || real.digest() != model.digest()) {
            wrong++;
            System.out.println("read of <" + text + "> answered " + got + ", due is " + want);
        }
        return calls + 2;
    }

    private static int odd(Random random, int low, int high) {
        if (random.nextInt(60) == 0) {
            int[] strange = {low - 1, high + 1, -1, Integer.MIN_VALUE, Integer.MAX_VALUE, 64, 32768, random.nextInt()};
            return strange[random.nextInt(strange.length)];
        }
        return low + random.nextInt(high - low + 1);
    }

    private static int row(Random random, int n) {
        int row = 0;
        for (int i = 0; i < n; i++) {
            // Rows near the turning one and the standing one make tunes long.
            int shape = random.nextInt(4);
            int to = shape == 0 ? random.nextInt(n) : shape == 1 ? i : (i + 1) % n;
            row |= to << (3 * i);
        }
        return random.nextInt(60) == 0 ? odd(random, 0, 32767) : row;
    }

    private static long[] arguments(String call, Random random, Model model) {
        int n = model.state.n;
        int all = (1 << n) - 1;
        int last = Math.max(0, model.state.dogs.size() - 1);
        int sets = (1 << model.state.dogs.size()) - 1;
        int length = odd(random, 0, random.nextBoolean() ? 6 : 16);
        int bits = length >= 0 && length < 25 ? (1 << length) - 1 : 7;
        switch (call) {
            case "places": return new long[] {odd(random, 2, 5)};
            case "dog": return new long[] {new int[] {0, 1, 4, odd(random, 0, 4)}[random.nextInt(4)],
                row(random, n), row(random, n)};
            case "pup": return new long[] {odd(random, 2, 3), row(random, n), row(random, n), row(random, n),
                row(random, n), odd(random, 1, 3)};
            case "shut": return new long[] {odd(random, 0, n - 1), random.nextInt(2)};
            case "put": {
                int what = odd(random, 0, 3);
                return new long[] {what, what == 0 ? odd(random, 0, n - 1) : what == 1 ? odd(random, 0, all)
                    : odd(random, 1, 9)};
            }
            case "goes": return new long[] {odd(random, 0, last), odd(random, 0, n - 1), odd(random, 0, 1),
                odd(random, 0, random.nextBoolean() ? 5 : 99)};
            case "run": return new long[] {odd(random, 0, last), odd(random, 0, n - 1), odd(random, 0, bits), length};
            case "meets": return new long[] {odd(random, 0, last), odd(random, 0, bits), length};
            case "tame": return new long[] {odd(random, 0, sets), odd(random, 0, 1)};
            case "quiet":
            case "shuts": return new long[] {odd(random, 0, sets)};
            case "apart": return new long[] {odd(random, 0, last)};
            case "neighbour": return new long[] {odd(random, 0, sets), odd(random, 0, last), odd(random, 0, n - 1),
                odd(random, 0, 1)};
            case "tells": return new long[] {odd(random, 0, last), odd(random, 1, all), odd(random, 0, 2)};
            case "which": return new long[] {odd(random, 0, bits), length, odd(random, 0, bits)};
            case "starts": return new long[] {odd(random, 0, last), odd(random, 0, bits), length, odd(random, 0, bits)};
            case "drawn": return new long[] {odd(random, 0, last), odd(random, 0, random.nextInt(5) == 0 ? 12 : 5),
                odd(random, 0, 10)};
            case "part":
            case "image":
            case "from": return new long[] {odd(random, 0, 1)};
            case "status": return new long[] {odd(random, 0, 2)};
            case "count": return new long[] {odd(random, 0, 3)};
            case "type": return new long[] {random.nextLong(), odd(random, 1, 8)};
            default: return new long[0];
        }
    }

    private static long callReal(OneWhistle x, String call, long[] v) {
        int[] a = new int[v.length];
        for (int i = 0; i < a.length; i++) {
            a[i] = (int) v[i];
        }
        switch (call) {
            case "places": return x.places(a[0]);
            case "dog": return x.dog(a[0], a[1], a[2]);
            case "pup": return x.pup(a[0], a[1], a[2], a[3], a[4], a[5]);
            case "shut": return x.shut(a[0], a[1] == 1);
            case "put": return x.put(a[0], a[1]);
            case "goes": return x.goes(a[0], a[1], a[2], a[3]);
            case "run": return x.run(a[0], a[1], a[2], a[3]);
            case "meets": return x.meets(a[0], a[1], a[2]);
            case "tame": return x.tame(a[0], a[1]);
            case "quiet": return x.quiet(a[0]);
            case "shuts": return x.shuts(a[0]);
            case "apart": return x.apart(a[0]);
            case "neighbour": return x.neighbour(a[0], a[1], a[2], a[3]);
            case "tells": return x.tells(a[0], a[1], a[2]);
            case "which": return x.which(a[0], a[1], a[2]);
            case "starts": return x.starts(a[0], a[1], a[2], a[3]);
            case "drawn": return x.drawn(a[0], a[1], a[2]);
            case "part": return x.part(a[0]);
            case "image": return x.image(a[0]);
            case "from": return x.from(a[0]);
            case "status": return x.status(a[0]);
            case "count": return x.count(a[0]);
            case "type": return x.type(v[0], a[1]);
            case "clear": return x.clear();
            case "read": return x.read();
            default: throw new IllegalStateException(call);
        }
    }

    /** A dog as the document tells it: rows as places. */
    private static final class Dog {
        int kind;
        int[][] rows = new int[4][5];
        int m;

        int stay(State s, int[] row, int place) {
            return s.shut[row[place]] ? place : row[place];
        }

        int goes(State s, int place, int whistle, int t) {
            switch (kind) {
                case 0: return stay(s, rows[whistle], place);
                case 1: return t % 2 == 1 ? place : stay(s, rows[whistle], place);
                case 2: return stay(s, rows[t >= m ? 2 + whistle : whistle], place);
                case 3: {
                    if (t < m) {
                        return stay(s, rows[whistle], place);
                    }
                    return stay(s, rows[2 + whistle], stay(s, rows[2 + whistle], place));
                }
                default: return t % 2 == 0 ? place : stay(s, rows[whistle], place);
            }
        }

        long number(int i, int n) {
            long v = 0;
            for (int p = n - 1; p >= 0; p--) {
                v = 8 * v + rows[i][p];
            }
            return v;
        }
    }

    /** What an image keeps. */
    private static final class State {
        int n = 5;
        boolean[] shut = new boolean[5];
        int goal = 0;
        int barks = 0;
        int[] breath = {1, 1};
        List<Dog> dogs = new ArrayList<>();

        State copy() {
            State s = new State();
            s.n = n;
            s.shut = shut.clone();
            s.goal = goal;
            s.barks = barks;
            s.breath = breath.clone();
            s.dogs = new ArrayList<>(dogs);
            return s;
        }
    }

    private static final class Model {
        State state = new State();
        State[] images = new State[2];
        StringBuilder text = new StringBuilder();
        BigInteger above = BigInteger.ZERO;
        BigInteger below = BigInteger.ONE;
        int[] refused = new int[3];

        long bad(long answer) {
            refused[0]++;
            return answer;
        }

        long no() {
            refused[1]++;
            return -3;
        }

        long full() {
            refused[2]++;
            return -4;
        }

        boolean in(long v, long low, long high) {
            return v >= low && v <= high;
        }

        int dogCount() {
            return state.dogs.size();
        }

        int[] row(long number) {
            int[] row = new int[5];
            if (number < 0) {
                return null;
            }
            long left = number;
            for (int p = 0; p < state.n; p++) {
                row[p] = (int) (left % 8);
                left /= 8;
                if (row[p] >= state.n) {
                    return null;
                }
            }
            return left == 0 ? row : null;
        }

        long call(String call, long[] a) {
            switch (call) {
                case "places": return places(a[0]);
                case "dog":
                case "pup": return dog(call.equals("pup"), a);
                case "shut": return shut(a[0], a[1] == 1);
                case "put": return put(a[0], a[1]);
                case "type": return type(a[0], a[1]);
                case "clear": {
                    int before = text.length();
                    text.setLength(0);
                    return before;
                }
                case "read": return read();
                case "goes": return !in(a[0], 0, dogCount() - 1) || !in(a[1], 0, state.n - 1) || !in(a[2], 0, 1)
                    || !in(a[3], 0, 99) ? bad(-2)
                    : state.dogs.get((int) a[0]).goes(state, (int) a[1], (int) a[2], (int) a[3]);
                case "run": return !in(a[0], 0, dogCount() - 1) || !in(a[1], 0, state.n - 1) || !in(a[3], 0, 20)
                    || !in(a[2], 0, (1L << a[3]) - 1) ? bad(-2) : run(a[0], a[1], a[2], a[3]);
                case "meets": {
                    if (!in(a[0], 0, dogCount() - 1) || !in(a[2], 0, 20) || !in(a[1], 0, (1L << a[2]) - 1)) {
                        return bad(-2);
                    }
                    long bits = 0;
                    for (int p = 0; p < state.n; p++) {
                        bits |= 1L << run(a[0], p, a[1], a[2]);
                    }
                    return bits;
                }
                case "tame": return !in(a[0], 0, (1L << dogCount()) - 1) || !in(a[1], 0, 1) ? bad(-10)
                    : tame(a[0], -1, 0, state)[(int) a[1]];
                case "quiet": return !in(a[0], 0, (1L << dogCount()) - 1) ? bad(-2) : quiet(a[0]);
                case "apart": return !in(a[0], 0, dogCount() - 1) ? bad(-2) : apart(state.dogs.get((int) a[0]));
                case "shuts": return !in(a[0], 0, (1L << dogCount()) - 1) ? bad(-2) : shuts(a[0]);
                case "neighbour": return !in(a[0], 0, (1L << dogCount()) - 1) || !in(a[1], 0, dogCount() - 1)
                    || (a[0] >> a[1]) % 2 == 1 || !in(a[2], 0, state.n - 1) || !in(a[3], 0, 1) ? bad(-10)
                    : tame(a[0], (int) a[1], (int) a[2], state)[(int) a[3]];
                case "tells": return !in(a[0], 0, dogCount() - 1) || !in(a[1], 1, (1L << state.n) - 1) || !in(a[2], 0, 2)
                    ? bad(-10) : tells(state.dogs.get((int) a[0]), (int) a[1], (int) a[2]);
                case "which": {
                    if (!heard(a[0], a[1], a[2])) {
                        return bad(-2);
                    }
                    long dogs = 0;
                    for (int d = 0; d < dogCount(); d++) {
                        dogs |= starts(d, a[0], a[1], a[2]) != 0 ? 1L << d : 0;
                    }
                    return dogs;
                }
                case "starts": return !in(a[0], 0, dogCount() - 1) || !heard(a[1], a[2], a[3]) ? bad(-2)
                    : starts(a[0], a[1], a[2], a[3]);
                case "drawn": return !in(a[0], 0, dogCount() - 1) || !in(a[1], 0, 12) || !in(a[2], 0, 10) ? bad(-2)
                    : drawn(a[0], (int) a[1], a[2]);
                case "part": return !in(a[0], 0, 1) ? bad(-2) : (a[0] == 0 ? above : below).longValueExact();
                case "image": {
                    if (!in(a[0], 0, 1)) {
                        return bad(-2);
                    }
                    images[(int) a[0]] = state.copy();
                    return 1;
                }
                case "from": {
                    if (!in(a[0], 0, 1)) {
                        return bad(-2);
                    }
                    if (images[(int) a[0]] == null) {
                        return no();
                    }
                    state = images[(int) a[0]].copy();
                    return 1;
                }
                case "status": return !in(a[0], 0, 2) ? bad(-1) : refused[(int) a[0]];
                case "count": return !in(a[0], 0, 3) ? bad(-2)
                    : new long[] {state.n, dogCount(), shutCount(), text.length()}[(int) a[0]];
                default: throw new IllegalStateException(call);
            }
        }

        int shutCount() {
            int k = 0;
            for (boolean is : state.shut) {
                k += is ? 1 : 0;
            }
            return k;
        }

        long places(long n) {
            if (!in(n, 2, 5)) {
                return bad(-2);
            }
            int before = state.n;
            int[] breath = state.breath;
            state = new State();
            state.n = (int) n;
            state.breath = breath;
            return before;
        }

        long dog(boolean learns, long[] a) {
            boolean kindFits = learns ? a[0] == 2 || a[0] == 3 : a[0] == 0 || a[0] == 1 || a[0] == 4;
            if (!kindFits || learns && !in(a[5], 1, 3)) {
                return bad(-2);
            }
            Dog dog = new Dog();
            dog.kind = (int) a[0];
            for (int i = 0; i < (learns ? 4 : 2); i++) {
                dog.rows[i] = row(a[1 + i]);
                if (dog.rows[i] == null) {
                    return bad(-2);
                }
            }
            dog.m = learns ? (int) a[5] : 0;
            if (dogCount() == 3) {
                return full();
            }
            state.dogs.add(dog);
            return dogCount() - 1;
        }

        long shut(long place, boolean is) {
            if (!in(place, 0, state.n - 1)) {
                return bad(-2);
            }
            if (state.shut[(int) place] == is) {
                return no();
            }
            state.shut[(int) place] = is;
            return 1;
        }

        long put(long what, long v) {
            long before;
            if (what == 0 && in(v, 0, state.n - 1)) {
                before = state.goal;
                state.goal = (int) v;
            } else if (what == 1 && in(v, 0, (1 << state.n) - 1)) {
                before = state.barks;
                state.barks = (int) v;
            } else if (in(what, 2, 3) && in(v, 1, 9)) {
                before = state.breath[(int) what - 2];
                state.breath[(int) what - 2] = (int) v;
            } else {
                return bad(-2);
            }
            return before;
        }

        long type(long v, long n) {
            if (!in(n, 1, 8)) {
                return bad(-2);
            }
            if (text.length() + n > 200) {
                return full();
            }
            byte[] bytes = java.nio.ByteBuffer.allocate(8).putLong(v).array();
            for (int i = 8 - (int) n; i < 8; i++) {
                text.append((char) (bytes[i] & 255));
            }
            return text.length();
        }

        long read() {
            HillText told = new HillText(text.toString());
            if (told.fault >= 0) {
                return -10 - told.fault;
            }
            state = told.state;
            return dogCount();
        }

        int run(long dog, long place, long tune, long n) {
            int p = (int) place;
            for (int t = 0; t < n; t++) {
                p = state.dogs.get((int) dog).goes(state, p, (int) (tune >> t) & 1, t);
            }
            return p;
        }

        int move(State s, Dog dog, int set, int whistle, int t) {
            int to = 0;
            for (int p = 0; p < s.n; p++) {
                if ((set >> p & 1) == 1) {
                    to |= 1 << dog.goes(s, p, whistle, t);
                }
            }
            return to;
        }

        /** Every dog's set, 5 bits each; time by time with no tuple left out. */
        long[] tame(long dogs, int stranger, int place, State s) {
            List<Dog> all = new ArrayList<>();
            int start = 0;
            int target = 0;
            for (int d = 0; d < dogCount(); d++) {
                if ((dogs >> d & 1) == 1 || d == stranger) {
                    int shift = 5 * all.size();
                    start |= (d == stranger ? 1 << place : (1 << s.n) - 1) << shift;
                    target |= 1 << (d == stranger ? place : s.goal) << shift;
                    all.add(s.dogs.get(d));
                }
            }
            List<int[]> level = new ArrayList<>();
            level.add(new int[] {start, 0});
            for (int t = 0; t <= 20; t++) {
                List<int[]> next = new ArrayList<>();
                boolean[] seen = new boolean[1 << 15];
                for (int[] e : level) {
                    if (e[0] == target) {
                        return new long[] {t, e[1]};
                    }
                    for (int w = 0; w < 2; w++) {
                        int to = moveAll(s, all, e[0], w, t);
                        if (!seen[to]) {
                            seen[to] = true;
                            next.add(new int[] {to, e[1] | w << t});
                        }
                    }
                }
                level = next;
            }
            return new long[] {-1, -1};
        }

        int moveAll(State s, List<Dog> all, int sets, int whistle, int t) {
            int to = 0;
            for (int i = 0; i < all.size(); i++) {
                to |= move(s, all.get(i), sets >> (5 * i) & 31, whistle, t) << (5 * i);
            }
            return to;
        }

        long quiet(long dogs) {
            List<Dog> all = new ArrayList<>();
            int start = 0;
            int target = 0;
            for (int d = 0; d < dogCount(); d++) {
                if ((dogs >> d & 1) == 1) {
                    start |= ((1 << state.n) - 1) << (5 * all.size());
                    target |= 1 << state.goal << (5 * all.size());
                    all.add(state.dogs.get(d));
                }
            }
            int far = 1 << 20;
            int best = far;
            int[] cost = new int[1 << 15];
            Arrays.fill(cost, far);
            cost[start] = 0;
            for (int t = 0; t <= 20; t++) {
                best = Math.min(best, cost[target]);
                int[] next = new int[1 << 15];
                Arrays.fill(next, far);
                for (int sets = 0; sets < cost.length; sets++) {
                    if (cost[sets] < far) {
                        for (int w = 0; w < 2; w++) {
                            int to = moveAll(state, all, sets, w, t);
                            next[to] = Math.min(next[to], cost[sets] + state.breath[w]);
                        }
                    }
                }
                cost = next;
            }
            return best == far ? -1 : best;
        }

        long apart(Dog dog) {
            for (int a = 0; a < state.n; a++) {
                for (int b = a + 1; b < state.n; b++) {
                    if (!meet(dog, a, b)) {
                        return 10 * a + b;
                    }
                }
            }
            return -1;
        }

        boolean meet(Dog dog, int a, int b) {
            boolean[][] at = new boolean[state.n][state.n];
            at[a][b] = true;
            for (int t = 0; t < 100; t++) {
                boolean[][] next = new boolean[state.n][state.n];
                for (int p = 0; p < state.n; p++) {
                    for (int q = 0; q < state.n; q++) {
                        if (at[p][q]) {
                            for (int w = 0; w < 2; w++) {
                                next[dog.goes(state, p, w, t)][dog.goes(state, q, w, t)] = true;
                            }
                        }
                    }
                }
                at = next;
                for (int p = 0; p < state.n; p++) {
                    if (at[p][p]) {
                        return true;
                    }
                }
            }
            return false;
        }

        long shuts(long dogs) {
            int best = -1;
            for (int set = 0; set < 1 << state.n; set++) {
                boolean fewer = best < 0 || Integer.bitCount(set) < Integer.bitCount(best);
                if ((set >> state.goal & 1) == 0 && fewer) {
                    State other = state.copy();
                    for (int p = 0; p < 5; p++) {
                        other.shut[p] = (set >> p & 1) == 1;
                    }
                    best = tame(dogs, -1, 0, other)[0] >= 0 ? set : best;
                }
            }
            return best;
        }

        long tells(Dog dog, int places, int what) {
            List<int[]> barked = new ArrayList<>();
            List<int[]> still = new ArrayList<>();
            for (int p = 0; p < state.n; p++) {
                if ((places >> p & 1) == 1) {
                    ((state.barks >> p & 1) == 1 ? barked : still).add(new int[] {p, p});
                }
            }
            if (what == 0) {
                int worst = Math.max(needed(dog, barked, 0), needed(dog, still, 0));
                return worst > 8 ? -1 : worst;
            }
            List<int[]> left = what == 1 ? barked : still;
            if (left.size() <= 1) {
                return -1;
            }
            if (needed(dog, left, 0) > 8) {
                return -5;
            }
            return neededBy(dog, left, 0, 0) <= neededBy(dog, left, 0, 1) ? 0 : 1;
        }

        /** Pairs of where it was and where it would be now; 99: not with the whistles that are left. */
        int needed(Dog dog, List<int[]> pairs, int t) {
            if (pairs.size() <= 1) {
                return 0;
            }
            return t == 8 ? 99 : Math.min(neededBy(dog, pairs, t, 0), neededBy(dog, pairs, t, 1));
        }

        int neededBy(Dog dog, List<int[]> pairs, int t, int w) {
            List<int[]> barked = new ArrayList<>();
            List<int[]> still = new ArrayList<>();
            for (int[] pair : pairs) {
                int to = dog.goes(state, pair[1], w, t);
                ((state.barks >> to & 1) == 1 ? barked : still).add(new int[] {pair[0], to});
            }
            return Math.min(99, 1 + Math.max(needed(dog, barked, t + 1), needed(dog, still, t + 1)));
        }

        boolean heard(long tune, long n, long barks) {
            return in(n, 1, 16) && in(tune, 0, (1L << n) - 1) && in(barks, 0, (1L << n) - 1);
        }

        long starts(long dog, long tune, long n, long barks) {
            long places = 0;
            for (int p = 0; p < state.n; p++) {
                long heard = 0;
                for (int t = 1; t <= n; t++) {
                    heard |= (long) (state.barks >> run(dog, p, tune & ((1L << t) - 1), t) & 1) << (t - 1);
                }
                places |= heard == barks ? 1L << p : 0;
            }
            return places;
        }

        long drawn(long dog, int n, long w) {
            BigInteger sum = BigInteger.ZERO;
            for (int tune = 0; tune < 1 << n; tune++) {
                int ones = Integer.bitCount(tune);
                BigInteger weight = BigInteger.valueOf(w).pow(ones).multiply(BigInteger.valueOf(10 - w).pow(n - ones));
                for (int p = 0; p < state.n; p++) {
                    sum = run(dog, p, tune, n) == state.goal ? sum.add(weight) : sum;
                }
            }
            BigInteger all = BigInteger.TEN.pow(n).multiply(BigInteger.valueOf(state.n));
            BigInteger divisor = sum.gcd(all);
            above = sum.divide(divisor);
            below = all.divide(divisor);
            return 1;
        }

        long digest() {
            List<Long> all = new ArrayList<>();
            all.add((long) state.n);
            all.add((long) dogCount());
            all.add((long) shutCount());
            all.add((long) text.length());
            for (Dog dog : state.dogs) {
                all.add((long) dog.kind);
                for (int i = 0; i < 4; i++) {
                    all.add(dog.number(i, state.n));
                }
                all.add((long) dog.m);
            }
            long shut = 0;
            for (int p = 0; p < 5; p++) {
                shut |= state.shut[p] ? 1L << p : 0;
            }
            all.add(shut);
            all.add((long) state.goal);
            all.add((long) state.barks);
            all.add((long) state.breath[0]);
            all.add((long) state.breath[1]);
            all.add(above.longValueExact());
            all.add(below.longValueExact());
            long h = 661;
            for (long v : all) {
                h = 31 * h + v;
            }
            return h;
        }
    }

    /** A hill's text, cut by a pattern and led by a list of what each item wants. */
    private static final class HillText {
        private static final Pattern TOKEN = Pattern.compile(" *([a-z]+|[0-9]+|;|[\\x00-\\xff]|$)");
        int fault = -1;
        State state = new State();
        private final Matcher tokens;
        private String token;
        private int at;

        HillText(String text) {
            tokens = TOKEN.matcher(text);
            next();
            boolean first = true;
            do {
                item(first);
                first = false;
            } while (fault < 0 && !token.isEmpty());
        }

        void next() {
            if (!tokens.find()) {
                throw new IllegalStateException();
            }
            token = tokens.group(1);
            at = tokens.start(1);
        }

        void item(boolean first) {
            String word = token;
            boolean known = first ? word.equals("places") : List.of("shut", "goal", "barks", "breath", "dog").contains(word);
            want(known && !(word.equals("dog") && state.dogs.size() == 3));
            switch (fault >= 0 ? "" : word) {
                case "places": state.n = number(2, 5); break;
                case "shut": state.shut[number(0, state.n - 1)] = true; break;
                case "goal": state.goal = number(0, state.n - 1); break;
                case "barks": state.barks |= 1 << number(0, state.n - 1); break;
                case "breath": {
                    int w = number(0, 1);
                    state.breath[w] = number(1, 9);
                    break;
                }
                case "dog": dog(); break;
                default: break;
            }
            want(token.equals(";"));
        }

        void dog() {
            Dog dog = new Dog();
            dog.kind = number(0, 4);
            boolean learns = dog.kind == 2 || dog.kind == 3;
            for (int i = 0; i < (learns ? 4 : 2); i++) {
                String row = token;
                boolean fits = row.matches("[a-" + (char) ('a' + state.n - 1) + "]{" + state.n + "}");
                want(fits);
                for (int p = 0; fits && p < state.n; p++) {
                    dog.rows[i][p] = row.charAt(p) - 'a';
                }
            }
            dog.m = learns ? number(1, 3) : 0;
            state.dogs.add(dog);
        }

        int number(int low, int high) {
            boolean fits = token.matches("[" + low + "-" + high + "]");
            int value = fits ? token.charAt(0) - '0' : low;
            want(fits);
            return value;
        }

        void want(boolean fits) {
            if (fault >= 0) {
                return;
            }
            if (!fits) {
                fault = at;
            } else {
                next();
            }
        }

        static String row(Random random, int n) {
            StringBuilder row = new StringBuilder();
            for (int i = 0; i < n; i++) {
                row.append((char) ('a' + random.nextInt(n)));
            }
            return row.toString();
        }

        static String random(Random random) {
            int n = 2 + random.nextInt(4);
            StringBuilder text = new StringBuilder("places " + n + ";");
            int items = random.nextInt(8);
            for (int i = 0; i < items; i++) {
                String blank = random.nextInt(5) == 0 ? "  " : "";
                text.append(blank);
                switch (random.nextInt(6)) {
                    case 0: text.append("shut ").append(random.nextInt(n)).append(';'); break;
                    case 1: text.append("goal ").append(random.nextInt(n)).append(';'); break;
                    case 2: text.append("barks ").append(random.nextInt(n)).append(blank).append(';'); break;
                    case 3: text.append("breath ").append(random.nextInt(2)).append(' ').append(1 + random.nextInt(9))
                        .append(';'); break;
                    default: {
                        int kind = random.nextInt(5);
                        text.append("dog ").append(kind);
                        for (int r = 0; r < (kind == 2 || kind == 3 ? 4 : 2); r++) {
                            text.append(' ').append(row(random, n));
                        }
                        text.append(kind == 2 || kind == 3 ? " " + (1 + random.nextInt(3)) : "").append(';');
                    }
                }
            }
            int cut = random.nextInt(3);
            for (int i = 0; i < cut; i++) {
                spoil(random, text);
            }
            return text.length() > 200 ? text.substring(0, 200) : text.toString();
        }

        static void spoil(Random random, StringBuilder text) {
            String signs = "abcdeiz0123456789;; A-\u00e9\u0000\n";
            if (text.length() == 0) {
                return;
            }
            int at = random.nextInt(text.length());
            char sign = signs.charAt(random.nextInt(signs.length()));
            switch (random.nextInt(4)) {
                case 0: text.deleteCharAt(at); break;
                case 1: text.insert(at, sign); break;
                case 2: text.setCharAt(at, sign); break;
                default: text.setLength(random.nextInt(4) == 0 ? at : text.length()); break;
            }
        }
    }
}
