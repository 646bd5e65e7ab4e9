import java.util.Arrays;
import java.util.HashMap;
import java.util.Map;
import java.util.Random;

/**
 * Promises 13 to 18 held against plain recursions that know nothing of the class: what is left to do at a time, from
 * where all dogs may be then. The dogs' rows are mostly changes of places among each other, so that tunes are long.
 *
 * java SearchTest SEED HILLS
 */
public final class SearchTest extends Checks {
    private static final int LONGEST = 20;
    private static final int LONGEST_TELLING = 8;
    /** More than there are pairs of places at odd and at even times, and the first three times. */
    private static final int LONG_ENOUGH = 64;
    private static final int NEVER = 1 << 20;

    public static void main(String[] args) {
        long seed = args.length > 0 ? Long.parseLong(args[0]) : 1;
        int hills = args.length > 1 ? Integer.parseInt(args[1]) : 800;
        Random random = new Random(seed);
        for (int i = 0; i < hills; i++) {
            Hill hill = new Hill(random);
            OneWhistle x = hill.made();
            for (int dogs = 0; dogs < 1 << hill.dogs.length; dogs++) {
                checkTunes(hill, x, dogs);
            }
            checkShuts(hill, x, random.nextInt(1 << hill.dogs.length));
            for (int dog = 0; dog < hill.dogs.length; dog++) {
                checkApart(hill, x, dog);
                checkTells(hill, x, dog);
            }
        }
        close("what is sought is found on " + hills + " hills");
    }

    private static void checkTunes(Hill hill, OneWhistle x, int dogs) {
        Tunes tunes = new Tunes(hill, dogs, -1, 0);
        promise = 13;
        due(hill + "tame(" + dogs + ", 0)", x.tame(dogs, 0), tunes.shortest());
        due(hill + "tame(" + dogs + ", 1)", x.tame(dogs, 1), tunes.first());
        promise = 14;
        due(hill + "quiet(" + dogs + ")", x.quiet(dogs), tunes.leastBreath());
        promise = 17;
        for (int dog = 0; dog < hill.dogs.length; dog++) {
            if ((dogs >> dog & 1) != 0) {
                continue;
            }
            for (int place = 0; place < hill.places; place++) {
                Tunes back = new Tunes(hill, dogs, dog, place);
                String call = hill + "neighbour(" + dogs + ", " + dog + ", " + place + ", ";
                due(call + "0)", x.neighbour(dogs, dog, place, 0), back.shortest());
                due(call + "1)", x.neighbour(dogs, dog, place, 1), back.first());
            }
        }
    }

    private static void checkShuts(Hill hill, OneWhistle x, int dogs) {
        promise = 16;
        int want = -1;
        int told = hill.shut;
        for (int set = 0; set < 1 << hill.places; set++) {
            boolean isFewer = want < 0 || Integer.bitCount(set) < Integer.bitCount(want);
            if (isFewer && (set >> hill.goal & 1) == 0) {
                hill.shut = set;
                want = new Tunes(hill, dogs, -1, 0).shortest() >= 0 ? set : want;
            }
        }
        hill.shut = told;
        due(hill + "shuts(" + dogs + ")", x.shuts(dogs), want);
    }

    private static void checkApart(Hill hill, OneWhistle x, int dog) {
        promise = 15;
        int want = -1;
        for (int lesser = 0; lesser < hill.places && want < 0; lesser++) {
            for (int other = lesser + 1; other < hill.places && want < 0; other++) {
                want = canMeet(hill, hill.dogs[dog], lesser, other) ? -1 : 10 * lesser + other;
            }
        }
        due(hill + "apart(" + dog + ")", x.apart(dog), want);
    }

    private static boolean canMeet(Hill hill, int[] dog, int place, int other) {
        boolean[][] pairs = new boolean[hill.places][hill.places];
        pairs[place][other] = true;
        for (int t = 0; t < LONG_ENOUGH; t++) {
            boolean[][] later = new boolean[hill.places][hill.places];
            for (int one = 0; one < hill.places; one++) {
                for (int two = 0; two < hill.places; two++) {
                    if (pairs[one][two] && one == two) {
                        return true;
                    }
                    for (int whistle = 0; whistle < 2 && pairs[one][two]; whistle++) {
                        later[hill.next(dog, one, whistle, t)][hill.next(dog, two, whistle, t)] = true;
                    }
                }
            }
            pairs = later;
        }
        return false;
    }

    private static void checkTells(Hill hill, OneWhistle x, int dog) {
        promise = 18;
        for (int places = 1; places < 1 << hill.places; places++) {
            int[] barked = membersOf(places & hill.barks);
            int[] still = membersOf(places & ~hill.barks);
            int worst = Math.max(needed(hill, hill.dogs[dog], barked, 0), needed(hill, hill.dogs[dog], still, 0));
            String call = hill + "tells(" + dog + ", " + places + ", ";
            due(call + "0)", x.tells(dog, places, 0), worst >= NEVER ? -1 : worst);
            due(call + "1)", x.tells(dog, places, 1), firstOf(hill, hill.dogs[dog], barked));
            due(call + "2)", x.tells(dog, places, 2), firstOf(hill, hill.dogs[dog], still));
        }
    }

    private static int[] membersOf(int places) {
        int[] members = new int[Integer.bitCount(places)];
        int count = 0;
        for (int place = 0; place < 5; place++) {
            if ((places >> place & 1) != 0) {
                members[count] = place;
                count++;
            }
        }
        return members;
    }

    /** Where the dog is now, for each place where it may have been: how many whistles more tell which it was. */
    private static int needed(Hill hill, int[] dog, int[] now, int t) {
        if (now.length <= 1) {
            return 0;
        }
        if (t == LONGEST_TELLING) {
            return NEVER;
        }
        return Math.min(neededBy(hill, dog, now, t, 0), neededBy(hill, dog, now, t, 1));
    }

    private static int neededBy(Hill hill, int[] dog, int[] now, int t, int whistle) {
        int[] behind = Arrays.stream(now).map(place -> hill.next(dog, place, whistle, t)).toArray();
        int[] barked = Arrays.stream(behind).filter(place -> (hill.barks >> place & 1) != 0).toArray();
        int[] still = Arrays.stream(behind).filter(place -> (hill.barks >> place & 1) == 0).toArray();
        return 1 + Math.max(needed(hill, dog, barked, t + 1), needed(hill, dog, still, t + 1));
    }

    private static int firstOf(Hill hill, int[] dog, int[] now) {
        if (now.length <= 1) {
            return -1;
        }
        int by0 = neededBy(hill, dog, now, 0, 0);
        int by1 = neededBy(hill, dog, now, 0, 1);
        if (by0 >= NEVER && by1 >= NEVER) {
            return -5;
        }
        return by0 <= by1 ? 0 : 1;
    }

    private static final class Hill {
        final int places;
        final int goal;
        final int barks;
        final int[] breath;
        /** Kind, both rows, both rows from m on, m. */
        final int[][] dogs;
        int shut;

        Hill(Random random) {
            places = random.nextInt(3) == 0 ? 2 + random.nextInt(4) : 4 + random.nextInt(2);
            goal = random.nextInt(places);
            barks = random.nextInt(1 << places);
            breath = new int[] {1 + random.nextInt(9), 1 + random.nextInt(9)};
            shut = random.nextInt(3) == 0 ? random.nextInt(1 << places) : 0;
            dogs = new int[1 + random.nextInt(3)][];
            for (int i = 0; i < dogs.length; i++) {
                int kind = random.nextInt(5);
                boolean learns = kind == 2 || kind == 3;
                dogs[i] = new int[] {kind, anyRow(random), anyRow(random), learns ? anyRow(random) : 0,
                    learns ? anyRow(random) : 0, learns ? 1 + random.nextInt(3) : 0};
            }
        }

        /** A change of places among each other, most often; else one of them goes elsewhere, or all of them. */
        private int anyRow(Random random) {
            int[] to = new int[places];
            for (int i = 0; i < places; i++) {
                int other = random.nextInt(i + 1);
                to[i] = to[other];
                to[other] = i;
            }
            boolean isWild = random.nextInt(4) == 0;
            boolean isBent = random.nextInt(3) == 0;
            int bent = random.nextInt(places);
            int row = 0;
            for (int i = places - 1; i >= 0; i--) {
                row = 8 * row + (isWild || isBent && i == bent ? random.nextInt(places) : to[i]);
            }
            return row;
        }

        OneWhistle made() {
            OneWhistle x = new OneWhistle();
            x.places(places);
            for (int[] dog : dogs) {
                int number = dog[5] == 0 ? x.dog(dog[0], dog[1], dog[2]) : x.pup(dog[0], dog[1], dog[2], dog[3], dog[4], dog[5]);
                due(this + "a dog", number, x.count(1) - 1);
            }
            x.put(0, goal);
            x.put(1, barks);
            x.put(2, breath[0]);
            x.put(3, breath[1]);
            for (int place = 0; place < places; place++) {
                if ((shut >> place & 1) != 0) {
                    x.shut(place, true);
                }
            }
            return x;
        }

        int next(int[] dog, int place, int whistle, int t) {
            boolean isOdd = t % 2 == 1;
            if (dog[0] == 1 && isOdd || dog[0] == 4 && !isOdd) {
                return place;
            }
            boolean hasLearnt = dog[5] > 0 && t >= dog[5];
            int row = dog[whistle + (hasLearnt ? 3 : 1)];
            int once = byRow(row, place);
            return hasLearnt && dog[0] == 3 ? byRow(row, once) : once;
        }

        private int byRow(int row, int place) {
            int to = row >> 3 * place & 7;
            return (shut >> to & 1) != 0 ? place : to;
        }

        public String toString() {
            return "places " + places + " goal " + goal + " barks " + barks + " breath " + breath[0] + " " + breath[1]
                + " shut " + shut + " dogs " + Arrays.deepToString(dogs) + ": ";
        }
    }

    /** The tunes of a set of dogs, and of a neighbour's at a place (-1: none is there). */
    private static final class Tunes {
        private final Hill hill;
        private final int[] goers;
        private final int[] targets;
        private int start = 0;
        /** By time and where all may be (5 bits each): the fewest whistles that are left, and their least breath. */
        private final Map<Integer, int[]> left = new HashMap<>();

        Tunes(Hill hill, int dogs, int neighbour, int place) {
            this.hill = hill;
            int count = Integer.bitCount(dogs) + (neighbour >= 0 ? 1 : 0);
            goers = new int[count];
            targets = new int[count];
            int i = 0;
            for (int dog = 0; dog < hill.dogs.length; dog++) {
                boolean isIn = (dogs >> dog & 1) != 0;
                if (isIn || dog == neighbour) {
                    goers[i] = dog;
                    targets[i] = 1 << (isIn ? hill.goal : place);
                    start |= (isIn ? (1 << hill.places) - 1 : 1 << place) << 5 * i;
                    i++;
                }
            }
        }

        int shortest() {
            return leftAt(0, start)[0] >= NEVER ? -1 : leftAt(0, start)[0];
        }

        int leastBreath() {
            return leftAt(0, start)[1] >= NEVER ? -1 : leftAt(0, start)[1];
        }

        int first() {
            int length = shortest();
            int tune = length < 0 ? -1 : 0;
            int all = start;
            for (int t = 0; t < length; t++) {
                boolean by0 = leftAt(t + 1, behind(t, 0, all))[0] == length - t - 1;
                tune |= by0 ? 0 : 1 << t;
                all = behind(t, by0 ? 0 : 1, all);
            }
            return tune;
        }

        private int[] leftAt(int t, int all) {
            if (isThere(all)) {
                return new int[] {0, 0};
            }
            if (t == LONGEST) {
                return new int[] {NEVER, NEVER};
            }
            int[] known = left.get(t << 15 | all);
            if (known == null) {
                int[] by0 = leftAt(t + 1, behind(t, 0, all));
                int[] by1 = leftAt(t + 1, behind(t, 1, all));
                known = new int[] {1 + Math.min(by0[0], by1[0]), Math.min(by0[1] + hill.breath[0], by1[1] + hill.breath[1])};
                left.put(t << 15 | all, known);
            }
            return known;
        }

        private boolean isThere(int all) {
            for (int i = 0; i < goers.length; i++) {
                if ((all >> 5 * i & 31) != targets[i]) {
                    return false;
                }
            }
            return true;
        }

        private int behind(int t, int whistle, int all) {
            int behind = 0;
            for (int i = 0; i < goers.length; i++) {
                for (int place = 0; place < hill.places; place++) {
                    if ((all >> (5 * i + place) & 1) != 0) {
                        behind |= 1 << (5 * i + hill.next(hill.dogs[goers[i]], place, whistle, t));
                    }
                }
            }
            return behind;
        }
    }
}
