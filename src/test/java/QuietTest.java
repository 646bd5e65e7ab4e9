import java.util.Arrays;
import java.util.Random;

/**
 * Promise 14 held against the document's own sentence: hills whose tunes must be long, every tune of 20 at most gone
 * through, and the least breath of those that bring all dogs to the goal, for all breaths that there are. Such hills
 * are rare among random ones, so they are sought here: a search that leaves out tunes goes wrong on them first.
 * Promises 13 and 17 are held against every tune, too.
 *
 * java QuietTest SEED HILLS
 */
public final class QuietTest {
    private static final int LONGEST = 20;
    /** The shortest tune of some hills is just too long: there quiet is none. */
    private static final int TOO_LONG = 21;
    private static final int MOST_BREATH = 9;

    /**
     * Kinds of the dogs of a hill, by its number. Plain dogs go alike at all times, and dogs that learn at all but the
     * first ones: with these a search has most ways of taking one time for another.
     */
    private static final int[][] KINDS = {{0}, {0, 2, 3}, {0}, {0, 1, 2, 3, 4}, {0}};
    /** How many whistles the shortest tune of a hill must have, by its number: the nearer to 20, the fewer are left. */
    private static final int[] LENGTHS = {20, 19, 18, 17, 20, 21, 19, 20};

    private static final int[] hillsByDogs = new int[4];
    private static int answers = 0;
    private static int wrong = 0;

    public static void main(String[] args) {
        long seed = args.length > 0 ? Long.parseLong(args[0]) : 1;
        int hills = args.length > 1 ? Integer.parseInt(args[1]) : 200;
        Random random = new Random(seed);
        for (int i = 0; i < hills && wrong < 20; i++) {
            check(longHill(random, KINDS[i % KINDS.length], LENGTHS[i % LENGTHS.length]));
        }
        System.out.println(hills + " hills of 1, 2 and 3 dogs " + hillsByDogs[1] + ", " + hillsByDogs[2] + ", "
            + hillsByDogs[3] + ", " + answers + " answers");
        System.out.println(wrong == 0 ? "quiet is as the document says" : wrong + " answers are wrong");
        if (wrong != 0) {
            System.exit(1);
        }
    }

    /** Goes from hill to hill, one change each, to where tunes are no shorter, till one is as long as that. */
    private static Hill longHill(Random random, int[] kinds, int length) {
        Hill hill = new Hill(random, kinds);
        int reached = hill.shortest();
        for (int steps = 1; reached != length; steps++) {
            if (steps == 10_000_000) {
                throw new IllegalStateException("no long hill was found");
            }
            boolean isFresh = steps % 1000 == 0;
            Hill next = isFresh ? new Hill(random, kinds) : new Hill(random, hill);
            int longer = next.shortest();
            if (isFresh || longer >= reached && longer <= length) {
                hill = next;
                reached = longer;
            }
        }
        hillsByDogs[hill.dogs.length]++;
        return hill;
    }

    private static void check(Hill hill) {
        EveryTune every = new EveryTune(hill, hill.everywhere(), hill.allAtGoal());
        OneWhistle x = hill.made();
        int dogs = (1 << hill.dogs.length) - 1;
        due(hill, "tame(" + dogs + ", 0)", x.tame(dogs, 0), every.shortest);
        due(hill, "tame(" + dogs + ", 1)", x.tame(dogs, 1), every.first);
        for (int breath0 = 1; breath0 <= MOST_BREATH; breath0++) {
            x.put(2, breath0);
            for (int breath1 = 1; breath1 <= MOST_BREATH; breath1++) {
                x.put(3, breath1);
                due(hill, "quiet(" + dogs + ") at breaths " + breath0 + ", " + breath1, x.quiet(dogs),
                    every.least(breath0, breath1));
            }
        }
        checkNeighbour(hill, x);
    }

    /** The last dog is the neighbour's, and stands at the place behind the goal. */
    private static void checkNeighbour(Hill hill, OneWhistle x) {
        int stranger = hill.dogs.length - 1;
        int place = (hill.goal + 1) % hill.places;
        int rest = (1 << 5 * stranger) - 1;
        int there = 1 << (5 * stranger + place);
        EveryTune every = new EveryTune(hill, hill.everywhere() & rest | there, hill.allAtGoal() & rest | there);
        int dogs = (1 << stranger) - 1;
        String call = "neighbour(" + dogs + ", " + stranger + ", " + place + ", ";
        due(hill, call + "0)", x.neighbour(dogs, stranger, place, 0), every.shortest);
        due(hill, call + "1)", x.neighbour(dogs, stranger, place, 1), every.first);
    }

    private static void due(Hill hill, String call, int answer, int due) {
        answers++;
        if (answer != due) {
            wrong++;
            System.out.println(hill.told() + ": " + call + " answered " + answer + ", due is " + due);
        }
    }

    private static final class Hill {
        final int places;
        final int shut;
        final int goal;
        final Dog[] dogs;

        Hill(Random random, int[] kinds) {
            places = 3 + Math.min(2, random.nextInt(4));
            goal = random.nextInt(places);
            shut = random.nextInt(6) == 0 ? 1 << random.nextInt(places) : 0;
            dogs = new Dog[Math.min(3, 1 + random.nextInt(4))];
            for (int i = 0; i < dogs.length; i++) {
                dogs[i] = new Dog(random, places, kinds[random.nextInt(kinds.length)]);
            }
        }

        /** As that one, but that one dog goes elsewhere from one place. */
        Hill(Random random, Hill other) {
            places = other.places;
            goal = other.goal;
            shut = other.shut;
            dogs = other.dogs.clone();
            int changed = random.nextInt(dogs.length);
            dogs[changed] = new Dog(random, dogs[changed]);
        }

        /** How many whistles the shortest tune has; NONE if it has more than TOO_LONG. */
        int shortest() {
            int[] lastTime = new int[1 << 15];
            int[] now = {everywhere()};
            for (int t = 1; t <= TOO_LONG; t++) {
                int[] later = new int[2 * now.length];
                int count = 0;
                for (int whistle = 0; whistle < 2; whistle++) {
                    int[][] table = table(t - 1, whistle);
                    for (int where : now) {
                        int behind = behind(table, where);
                        if (lastTime[behind] != t) {
                            lastTime[behind] = t;
                            later[count] = behind;
                            count++;
                        }
                    }
                }
                if (lastTime[allAtGoal()] == t) {
                    return t;
                }
                now = Arrays.copyOf(later, count);
            }
            return OneWhistle.NONE;
        }

        /** Where all dogs may be: 5 bits for each. */
        int everywhere() {
            return forEach((1 << places) - 1);
        }

        int allAtGoal() {
            return forEach(1 << goal);
        }

        private int forEach(int set) {
            int where = 0;
            for (int i = 0; i < dogs.length; i++) {
                where |= set << (5 * i);
            }
            return where;
        }

        /** By dog, and by where it may be: where it may be behind the whistle, at its own bits. */
        int[][] table(int t, int whistle) {
            int[][] table = new int[3][1 << 5];
            for (int i = 0; i < dogs.length; i++) {
                for (int set = 1; set < 1 << places; set++) {
                    for (int place = 0; place < places; place++) {
                        if ((set >> place & 1) != 0) {
                            table[i][set] |= 1 << (5 * i + dogs[i].next(place, whistle, t, shut));
                        }
                    }
                }
            }
            return table;
        }

        static int behind(int[][] table, int where) {
            return table[0][where & 31] | table[1][where >> 5 & 31] | table[2][where >> 10];
        }

        OneWhistle made() {
            OneWhistle x = new OneWhistle();
            x.places(places);
            for (Dog dog : dogs) {
                dog.comeTo(x);
            }
            x.put(0, goal);
            for (int place = 0; place < places; place++) {
                if ((shut >> place & 1) != 0) {
                    x.shut(place, true);
                }
            }
            return x;
        }

        String told() {
            StringBuilder told = new StringBuilder("places " + places + ", goal " + goal + ", shut bits " + shut);
            for (Dog dog : dogs) {
                told.append(", ").append(dog.told());
            }
            return told.toString();
        }
    }

    private static final class Dog {
        final int kind;
        final int m;
        final int[][] rows = new int[4][];

        Dog(Random random, int places, int kind) {
            this.kind = kind;
            m = 1 + random.nextInt(3);
            for (int i = 0; i < rows.length; i++) {
                rows[i] = row(random, places);
            }
        }

        Dog(Random random, Dog other) {
            kind = other.kind;
            m = other.m;
            for (int i = 0; i < rows.length; i++) {
                rows[i] = other.rows[i].clone();
            }
            int[] changed = rows[random.nextInt(learns() ? 4 : 2)];
            changed[random.nextInt(changed.length)] = random.nextInt(changed.length);
        }

        private static int[] row(Random random, int places) {
            int[] row = new int[places];
            for (int i = 0; i < places; i++) {
                row[i] = random.nextInt(places);
            }
            return row;
        }

        private boolean learns() {
            return kind == 2 || kind == 3;
        }

        int next(int place, int whistle, int t, int shut) {
            boolean odd = t % 2 == 1;
            if (kind == 1 && odd || kind == 4 && !odd) {
                return place;
            }
            boolean learned = learns() && t >= m;
            int[] row = rows[learned ? 2 + whistle : whistle];
            int once = step(row, place, shut);
            return kind == 3 && learned ? step(row, once, shut) : once;
        }

        private static int step(int[] row, int place, int shut) {
            return (shut >> row[place] & 1) != 0 ? place : row[place];
        }

        void comeTo(OneWhistle x) {
            if (learns()) {
                x.pup(kind, number(rows[0]), number(rows[1]), number(rows[2]), number(rows[3]), m);
            } else {
                x.dog(kind, number(rows[0]), number(rows[1]));
            }
        }

        private static int number(int[] row) {
            int number = 0;
            for (int i = row.length - 1; i >= 0; i--) {
                number = 8 * number + row[i];
            }
            return number;
        }

        String told() {
            String told = "dog " + kind + " " + number(rows[0]) + " " + number(rows[1]);
            return learns() ? told + " " + number(rows[2]) + " " + number(rows[3]) + " " + m : told;
        }
    }

    /** Goes through every tune of 20 at most, leaving none out, and keeps which counts of both whistles do. */
    private static final class EveryTune {
        int shortest = OneWhistle.NONE;
        int first = OneWhistle.NONE;

        private final int end;
        private final boolean[][] found = new boolean[LONGEST + 1][LONGEST + 1];
        private final int[][][] by0 = new int[LONGEST][][];
        private final int[][][] by1 = new int[LONGEST][][];

        EveryTune(Hill hill, int start, int end) {
            this.end = end;
            for (int t = 0; t < LONGEST; t++) {
                by0[t] = hill.table(t, 0);
                by1[t] = hill.table(t, 1);
            }
            go(0, start, 0, 0);
        }

        private void go(int t, int where, int tune, int ones) {
            if (where == end) {
                found[t - ones][ones] = true;
                if (shortest == OneWhistle.NONE || t < shortest || t == shortest && isAhead(tune, first)) {
                    shortest = t;
                    first = tune;
                }
            }
            if (t < LONGEST) {
                go(t + 1, Hill.behind(by0[t], where), tune, ones);
                go(t + 1, Hill.behind(by1[t], where), tune | 1 << t, ones + 1);
            }
        }

        /** The first whistle is the lowest bit, so the first unlike one is the lowest bit that is unlike. */
        private static boolean isAhead(int tune, int other) {
            int unlike = tune ^ other;
            return (tune & unlike & -unlike) == 0;
        }

        int least(int breath0, int breath1) {
            int least = OneWhistle.NONE;
            for (int zeros = 0; zeros <= LONGEST; zeros++) {
                for (int ones = 0; zeros + ones <= LONGEST; ones++) {
                    int breath = zeros * breath0 + ones * breath1;
                    if (found[zeros][ones] && (least == OneWhistle.NONE || breath < least)) {
                        least = breath;
                    }
                }
            }
            return least;
        }
    }
}
