/**
 * What is sought, at the limits that the document sets: tunes of 20 whistles and of 21, tellings of 8 and of 9, pairs
 * that meet as late as they can, sets of places with all or none in them, chances of 0 and 1, images kept again.
 *
 * Most hills here have a dog that one whistle turns round and the other moves off one place only: from everywhere to one
 * place it takes so long that each kind of dog, with its own waste of whistles, comes to the limit at another goal.
 */
public final class LimitsTest extends Checks {
    private static final int LONGEST = 20;
    private static final String[] TURNED = {"", "", "ba", "bca", "bcda", "bcdea"};
    private static final String[] MOVED = {"", "", "bb", "bbc", "bbcd", "bbcde"};
    private static final String[] STAYED = {"", "", "ab", "abc", "abcd", "abcde"};
    /** What makes TURNED if it is done twice; 2 and 4 places have no such row. */
    private static final String[] HALF_TURNED = {"", "", "", "cab", "", "deabc"};

    public static void main(String[] args) {
        tunesOfEachKind();
        tunesOfTwoKinds();
        tunesOfNoDogs();
        neighboursOfTwenty();
        neighboursOfNone();
        shutsOfEachKind();
        shutsOfAllOrNone();
        goalThatIsShut();
        allThatAreShut();
        pairsThatMeetLate();
        firstOfThosePairs();
        tellingsOfEight();
        tellingsOfNone();
        firstWhistles();
        heardOnceAndSixteenTimes();
        runsOfNoneAndTwenty();
        chances();
        imagesAgain();
        imagesOfOtherPlaces();
        countsOfNoneAndAll();
        placesAgain();
        digestsOfTheGreatest();
        close("the limits hold");
    }

    // ---- tunes

    /** How many goings bring a dog from everywhere to a goal. */
    private static int goings(int n, int goal) {
        return (n - 1) * (n - 1) + (goal + n - 1) % n;
    }

    private static OneWhistle plain(int n) {
        return hill(n, TURNED[n], MOVED[n]);
    }

    private static OneWhistle ofKind(int kind, int n) {
        OneWhistle x = hill(n);
        x.dog(kind, row(TURNED[n]), row(MOVED[n]));
        return x;
    }

    /** It stays till it has learnt. */
    private static OneWhistle learning(int kind, int n, int m) {
        OneWhistle x = hill(n);
        int stayed = row(STAYED[n]);
        x.pup(kind, stayed, stayed, row(kind == 3 ? HALF_TURNED[n] : TURNED[n]), row(MOVED[n]), m);
        return x;
    }

    private static void tunesOfEachKind() {
        for (int n = 2; n <= 5; n++) {
            for (int goal = 0; goal < n; goal++) {
                int needed = goings(n, goal);
                OneWhistle x = plain(n);
                x.put(0, goal);
                int tune = x.tame(1, 1);
                tamed("PLAIN", x, goal, needed, tune);
                promise = 12;
                due("meets behind it", x.meets(0, tune, needed), 1 << goal);
                tamed("DEAF", ofKind(1, n), goal, 2 * needed - 1, spread(tune));
                tamed("STUBBORN", ofKind(4, n), goal, 2 * needed, spread(tune) << 1);
                for (int m = 1; m <= 3; m++) {
                    tamed("PUP", learning(2, n, m), goal, m + needed, tune << m);
                    if (n % 2 == 1) {
                        tamed("KEEN", learning(3, n, m), goal, m + needed, tune << m);
                    }
                }
            }
        }
    }

    /** A dog that goes to the goal at each whistle changes nothing, whether it comes first or last. */
    private static void tunesOfTwoKinds() {
        for (int n = 2; n <= 4; n++) {
            for (int kind : new int[] {1, 4}) {
                for (int goal = 0; goal < n; goal++) {
                    OneWhistle alone = ofKind(kind, n);
                    alone.put(0, goal);
                    OneWhistle last = ofKind(kind, n);
                    last.put(0, goal);
                    OneWhistle first = hill(n);
                    first.put(0, goal);
                    int home = row("aaaa".replace('a', (char) ('a' + goal)).substring(0, n));
                    last.dog(0, home, home);
                    first.dog(0, home, home);
                    first.dog(kind, row(TURNED[n]), row(MOVED[n]));
                    asAlone(alone, last);
                    asAlone(alone, first);
                }
            }
        }
    }

    private static void asAlone(OneWhistle alone, OneWhistle both) {
        promise = 13;
        due("tame(3, 0)", both.tame(3, 0), alone.tame(1, 0));
        due("tame(3, 1)", both.tame(3, 1), alone.tame(1, 1));
        promise = 14;
        due("quiet(3)", both.quiet(3), alone.quiet(1));
    }

    /** A whistle 0 behind each whistle. */
    private static int spread(int tune) {
        int wide = 0;
        for (int t = 0; t < LONGEST / 2; t++) {
            wide |= (tune >> t & 1) << 2 * t;
        }
        return wide;
    }

    private static void tamed(String who, OneWhistle x, int goal, int length, int tune) {
        boolean none = length > LONGEST;
        String told = who + " to " + goal + " of " + x.count(0) + ", which takes " + length + ", ";
        x.put(0, goal);
        promise = 13;
        due(told + "tame(1, 0)", x.tame(1, 0), none ? OneWhistle.NONE : length);
        due(told + "tame(1, 1)", x.tame(1, 1), none ? OneWhistle.NONE : tune);
        promise = 14;
        for (int breath = 1; breath <= 9; breath += 4) {
            x.put(2, breath);
            x.put(3, breath);
            due(told + "quiet(1) at " + breath, x.quiet(1), none ? OneWhistle.NONE : breath * length);
        }
        status(x, 0, 0, 0);
    }

    private static void tunesOfNoDogs() {
        for (int dogs = 0; dogs <= 3; dogs++) {
            OneWhistle x = hill(2);
            for (int i = 0; i < dogs; i++) {
                x.dog(0, row("ab"), row("ab"));
            }
            promise = 13;
            due("tame(0, 0)", x.tame(0, 0), 0);
            due("tame(0, 1)", x.tame(0, 1), 0);
            promise = 14;
            due("quiet(0)", x.quiet(0), 0);
            promise = 16;
            x.shut(1, true);
            due("shuts(0)", x.shuts(0), 0);
            due("count(2) behind it", x.count(2), 1);
        }
    }

    // ---- neighbours

    /** A neighbour's dog that turns round so many places is there again behind as many whistles, or twice as many. */
    private static void neighboursOfTwenty() {
        promise = 17;
        String[] turns = {"", "abcde", "bacde", "bcade", "bcdae", "bcdea"};
        for (int goal = 0; goal < 5; goal++) {
            for (int turn = 1; turn <= 5; turn++) {
                OneWhistle x = hill(5, TURNED[5], MOVED[5], turns[turn], turns[turn]);
                x.put(0, goal);
                int needed = (goings(5, goal) + turn - 1) / turn * turn;
                int length = x.neighbour(1, 1, 0, 0);
                int tune = x.neighbour(1, 1, 0, 1);
                due("neighbour by " + turn + " to " + goal, length, needed > LONGEST ? OneWhistle.NONE : needed);
                if (needed > LONGEST) {
                    due("its tune", tune, OneWhistle.NONE);
                } else {
                    due("the dog behind it", x.meets(0, tune, length), 1 << goal);
                    due("the neighbour behind it", x.run(1, 0, tune, length), 0);
                }
            }
        }
    }

    /** With no dogs to be tamed he need not move, wherever he stands, and even if he never comes back. */
    private static void neighboursOfNone() {
        promise = 17;
        OneWhistle x = hill(3, "bbb", "bbb", "bca", "cab");
        for (int place = 0; place < 3; place++) {
            for (int dog = 0; dog <= 1; dog++) {
                due("neighbour(0, ..)", x.neighbour(0, dog, place, 0), 0);
                due("neighbour(0, ..)", x.neighbour(0, dog, place, 1), 0);
            }
        }
        x.put(0, 1);
        due("he stands at the goal", x.neighbour(2, 0, 1, 0), OneWhistle.NONE);
        due("he stands elsewhere", x.neighbour(1, 1, 0, 0), 2);
        due("he stands elsewhere", x.neighbour(1, 1, 0, 1), 2);
    }

    // ---- places to be shut

    /** The set that is due, by shutting each set there is and asking for a tune. */
    private static int shutsByTame(OneWhistle x, int n, int goal, int dogs) {
        int best = OneWhistle.NONE;
        for (int set = 0; set < 1 << n; set++) {
            boolean fewer = best == OneWhistle.NONE || Integer.bitCount(set) < Integer.bitCount(best);
            if ((set >> goal & 1) == 0 && fewer && canTame(x, n, set, dogs)) {
                best = set;
            }
        }
        return best;
    }

    private static boolean canTame(OneWhistle x, int n, int set, int dogs) {
        for (int place = 0; place < n; place++) {
            x.shut(place, (set >> place & 1) == 1);
        }
        return x.tame(dogs, 0) != OneWhistle.NONE;
    }

    private static void checkShuts(String what, OneWhistle x, int goal, int dogs) {
        promise = 16;
        int n = x.count(0);
        x.put(0, goal);
        int due = shutsByTame(x, n, goal, dogs);
        for (int set = 0; set < 1 << n; set += 5) {
            canTame(x, n, set, dogs);
            int before = x.count(2);
            due(what + " to " + goal + ", shuts(" + dogs + ") with " + set + " shut", x.shuts(dogs), due);
            due("count(2) behind it", x.count(2), before);
        }
    }

    /** A tune of 21 is none here, too. */
    private static void shutsOfEachKind() {
        for (int n = 2; n <= 5; n++) {
            for (int goal = 0; goal < n; goal++) {
                checkShuts("PLAIN", plain(n), goal, 1);
                checkShuts("DEAF", ofKind(1, n), goal, 1);
                checkShuts("STUBBORN", ofKind(4, n), goal, 1);
                checkShuts("PUP", learning(2, n, 3), goal, 1);
                checkShuts("who stays", hill(n, STAYED[n], STAYED[n]), goal, 1);
            }
        }
    }

    private static void shutsOfAllOrNone() {
        promise = 16;
        due("all but the goal, of 2", hill(2, "ba", "ba").shuts(1), 2);
        due("all but the goal, of 3", hill(3, "baa", "baa", "caa", "caa").shuts(3), 6);
        due("all but the goal, of 4", hill(4, "baaa", "baaa", "caaa", "caaa", "daaa", "daaa").shuts(7), 14);
        OneWhistle five = new OneWhistle();
        five.dog(1, row("baada"), row("daead"));
        five.pup(3, row("caada"), row("ddeda"), row("eddce"), row("dccab"), 2);
        five.pup(2, row("bacca"), row("deeae"), row("babeb"), row("ecaea"), 1);
        due("all but the goal, of 5", five.shuts(7), 30);
        checkShuts("three dogs of 5", five, 0, 7);
        OneWhistle keen = new OneWhistle();
        keen.pup(3, row("bbecc"), row("cecea"), row("dcbee"), row("eacae"), 2);
        keen.pup(3, row("eedca"), row("aaaab"), row("ecebd"), row("ceaec"), 3);
        keen.put(0, 2);
        due("all but the goal in the midst", keen.shuts(3), 27);
        checkShuts("two dogs of 5", keen, 2, 3);
        due("none", hill(5, "aaaaa", "abcde").shuts(1), 0);
        due("none does", hill(5, "bbbbb", "bbbbb").shuts(1), OneWhistle.NONE);
        // One of 1 and 2 is enough: the least bits count.
        due("of like ones the least", hill(3, "baa", "caa").shuts(1), 2);
    }

    /** None comes to a goal that is shut, and who is there may leave it for ever. */
    private static void goalThatIsShut() {
        OneWhistle x = hill(3, "aaa", "baa");
        promise = 13;
        due("tame(1, 0)", x.tame(1, 0), 1);
        x.shut(0, true);
        due("tame(1, 0) with the goal shut", x.tame(1, 0), OneWhistle.NONE);
        promise = 14;
        due("quiet(1) with the goal shut", x.quiet(1), OneWhistle.NONE);
        promise = 16;
        due("shuts(1), by which it is not", x.shuts(1), 0);
        promise = 17;
        due("neighbour at the goal", x.neighbour(0, 0, 0, 0), 0);
        promise = 10;
        due("who is there stays", x.goes(0, 0, 0, 0), 0);
        due("who is there leaves", x.goes(0, 0, 1, 0), 1);
    }

    /** With all places shut each dog of each kind stays for ever. */
    private static void allThatAreShut() {
        for (int kind = 0; kind <= 4; kind++) {
            OneWhistle x = hill(4);
            int turned = row(TURNED[4]);
            if (kind == 2 || kind == 3) {
                x.pup(kind, turned, turned, turned, turned, 1);
            } else {
                x.dog(kind, turned, turned);
            }
            for (int place = 0; place < 4; place++) {
                x.shut(place, true);
            }
            x.put(1, 1);
            promise = 10;
            for (int place = 0; place < 4; place++) {
                for (int t = 0; t < 4; t++) {
                    due("goes", x.goes(0, place, t & 1, t), place);
                }
            }
            promise = 13;
            due("tame(1, 0)", x.tame(1, 0), OneWhistle.NONE);
            promise = 15;
            due("apart(0)", x.apart(0), 1);
            told("all shut", x, 0, 15, -1, -1, -5);
            chance("all shut", x, 12, 5, 1, 4);
            promise = 20;
            due("starts", x.starts(0, 0, 16, 0xffff), 1);
        }
    }

    // ---- pairs

    /** 0 and 4 meet behind ten goings, through each pair that there is: behind 20 whistles, if every second one is lost. */
    private static void pairsThatMeetLate() {
        promise = 15;
        String by0 = "aacde";
        String by1 = "dabec";
        due("PLAIN", hill(5, by0, by1).apart(0), OneWhistle.NONE);
        for (int kind : new int[] {1, 4}) {
            OneWhistle x = hill(5);
            x.dog(kind, row(by0), row(by1));
            due("kind " + kind, x.apart(0), OneWhistle.NONE);
        }
        for (int m = 1; m <= 3; m++) {
            OneWhistle x = hill(5);
            x.pup(2, row("abcde"), row("abcde"), row(by0), row(by1), m);
            due("PUP", x.apart(0), OneWhistle.NONE);
        }
        // All that its first whistle does not join comes to 0 and 4, which meet last of all.
        OneWhistle later = hill(5);
        later.pup(2, row("aaeee"), row("aaeee"), row(by0), row(by1), 1);
        due("from 0 and 4 alone", later.apart(0), OneWhistle.NONE);
        OneWhistle parted = hill(5, by0, "bcdea");
        due("all meet", parted.apart(0), OneWhistle.NONE);
        parted.shut(0, true);
        parted.shut(1, true);
        due("with 0 and 1 shut these two stay", parted.apart(0), 1);
    }

    private static void firstOfThosePairs() {
        promise = 15;
        for (int n = 2; n <= 5; n++) {
            due("all stay", hill(n, STAYED[n], STAYED[n]).apart(0), 1);
            due("all turn", hill(n, TURNED[n], TURNED[n]).apart(0), 1);
            due("all meet", hill(n, TURNED[n], MOVED[n]).apart(0), OneWhistle.NONE);
        }
        // Places of one letter's row are joined at once and for ever; the others stay.
        due("0 and 2", hill(5, "aacde", "abcde").apart(0), 2);
        due("0 and 3", hill(5, "aaade", "abcde").apart(0), 3);
        due("0 and 4", hill(5, "aaaae", "abcde").apart(0), 4);
        // It stays where its first whistle brought it: 0 joins all but 4, and 1 all but 3.
        OneWhistle last = hill(5);
        last.pup(2, row("aaaab"), row("aaaba"), row("abcde"), row("abcde"), 1);
        due("the last that there is", last.apart(0), 34);
    }

    // ---- telling

    private static void told(String what, OneWhistle x, int dog, int places, int... due) {
        promise = 18;
        for (int asked = 0; asked < 3; asked++) {
            due(what + ", tells(" + dog + ", " + places + ", " + asked + ")", x.tells(dog, places, asked), due[asked]);
        }
        status(x, 0, 0, 0);
    }

    /** By this one 6 goings tell all places. Who learns 2 needs 8 whistles for it, who learns 3 would need 9. */
    private static void tellingsOfEight() {
        String by0 = "bcaed";
        String by1 = "eabda";
        OneWhistle x = hill(5, by0, by1);
        for (int m = 2; m <= 3; m++) {
            x.pup(2, row("abcde"), row("abcde"), row(by0), row(by1), m);
        }
        // All but 3 bark.
        x.put(1, 23);
        due("6 by PLAIN", x.tells(0, 31, 0), 6);
        told("8 by PUP", x, 1, 31, 8, 0, -1);
        told("9 by PUP", x, 2, 31, -1, -5, -1);
        // 3 alone barks: what is heard is turned round, and what is told by it is not.
        x.put(1, 8);
        due("6 by PLAIN", x.tells(0, 31, 0), 6);
        told("8 by PUP", x, 1, 31, 8, -1, 0);
        told("9 by PUP", x, 2, 31, -1, -1, -5);
        OneWhistle four = hill(5);
        four.dog(1, row("edbca"), row("cdabe"));
        four.dog(4, row("edbca"), row("cdabe"));
        four.put(1, 8);
        due("7 by DEAF", four.tells(0, 31, 0), 7);
        told("8 by STUBBORN", four, 1, 31, 8, -1, 0);
        OneWhistle five = hill(5);
        five.dog(1, row("bdace"), row("edbca"));
        five.put(1, 15);
        told("9 by DEAF", five, 0, 31, -1, -5, -1);
    }

    /** One place is told by nothing, two of which one barks, too; no barks or nothing but barks tell nothing. */
    private static void tellingsOfNone() {
        for (int n = 2; n <= 5; n++) {
            int all = (1 << n) - 1;
            for (int barks = 0; barks <= all; barks++) {
                OneWhistle x = hill(n, STAYED[n], STAYED[n]);
                x.put(1, barks);
                for (int place = 0; place < n; place++) {
                    told("one place", x, 0, 1 << place, 0, -1, -1);
                }
                boolean many = Integer.bitCount(barks) > 1;
                boolean manyStill = Integer.bitCount(all & ~barks) > 1;
                told("who stays", x, 0, all, many || manyStill ? -1 : 0, many ? -5 : -1, manyStill ? -5 : -1);
            }
            OneWhistle turned = hill(n, TURNED[n], TURNED[n]);
            told("no barks", turned, 0, all, -1, -1, -5);
            turned.put(1, all);
            told("nothing but barks", turned, 0, all, -1, -5, -1);
        }
    }

    private static void firstWhistles() {
        // 1 barks; 0 is told from 2 by either whistle, by 0 alone, by 1 alone, and by neither.
        told("both", barking(3, 2, "baa", "bbc"), 0, 5, 1, -1, 0);
        told("0 alone", barking(3, 2, "bbc", "abc"), 0, 5, 1, -1, 0);
        told("1 alone", barking(3, 2, "abc", "bbc"), 0, 5, 1, -1, 1);
        told("neither", barking(3, 2, "abc", "abc"), 0, 5, -1, -1, -5);
        // 0 and 2 come to one place by 0, so that they are never told behind it.
        told("1, as 0 joins them", barking(3, 2, "aba", "cbb"), 0, 5, 1, -1, 1);
        // By 0 it takes two more, by 1 one.
        told("1 is sooner", barking(4, 8, "bcda", "dbca"), 0, 3, 1, -1, 1);
        told("0 is as good as 1", barking(4, 8, "dbca", "dbca"), 0, 3, 1, -1, 0);
        // What it learns counts from the second whistle on alone.
        told("as it has not learnt", learningToBark("bbc", "abc", "aaa", "aaa"), 0, 5, 1, -1, 0);
        told("as it has not learnt", learningToBark("abc", "bbc", "bbc", "abc"), 0, 5, 1, -1, 1);
        told("too late, as 0 and 1 joined them", learningToBark("aba", "cbc", "bbc", "bbc"), 0, 5, -1, -1, -5);
        told("as it has learnt", learningToBark("abc", "abc", "abc", "bbc"), 0, 5, 2, -1, 0);
        // The places that bark are told, those that do not are not.
        told("one of both", barking(4, 3, "acdc", "acdd"), 0, 15, -1, 0, -5);
    }

    private static OneWhistle barking(int n, int barks, String by0, String by1) {
        OneWhistle x = hill(n, by0, by1);
        x.put(1, barks);
        return x;
    }

    /** Of three places 1 barks. */
    private static OneWhistle learningToBark(String by0, String by1, String then0, String then1) {
        OneWhistle x = hill(3);
        x.pup(2, row(by0), row(by1), row(then0), row(then1), 1);
        x.put(1, 2);
        return x;
    }

    // ---- what was heard, and runs

    private static void heardOnceAndSixteenTimes() {
        OneWhistle x = hill(5, TURNED[5], STAYED[5], STAYED[5], STAYED[5], "aaaaa", "eeeee");
        x.put(1, 1);
        promise = 20;
        due("once, a bark", x.starts(0, 0, 1, 1), 16);
        due("once, none", x.starts(0, 0, 1, 0), 15);
        due("once, the other whistle", x.starts(0, 1, 1, 1), 1);
        due("sixteen, all barks", x.starts(1, 0xffff, 16, 0xffff), 1);
        due("sixteen, none", x.starts(1, 0xffff, 16, 0), 30);
        due("sixteen, all but the last", x.starts(1, 0, 16, 0x7fff), 0);
        due("sixteen, the last alone", x.starts(2, 0x7fff, 16, 0x8000), 31);
        due("sixteen, the first alone", x.starts(2, 0xfffe, 16, 1), 31);
        due("what is ahead of the first is not heard", x.starts(2, 1, 1, 0), 31);
        promise = 19;
        due("once, a bark", x.which(0, 1, 1), 7);
        due("once, none", x.which(0, 1, 0), 3);
        due("sixteen, all barks", x.which(0, 16, 0xffff), 6);
        due("sixteen, none", x.which(0xffff, 16, 0), 7);
        due("sixteen, the last alone", x.which(0x7fff, 16, 0x8000), 5);
        due("sixteen, as none barks", x.which(0, 16, 0xfffd), 0);
        status(x, 0, 0, 0);
    }

    private static void runsOfNoneAndTwenty() {
        for (int n = 2; n <= 5; n++) {
            OneWhistle x = hill(n, TURNED[n], STAYED[n]);
            for (int place = 0; place < n; place++) {
                promise = 11;
                due("run of none", x.run(0, place, 0, 0), place);
                due("run of twenty 0", x.run(0, place, 0, 20), (place + 20) % n);
                due("run of twenty 1", x.run(0, place, 0xfffff, 20), place);
                due("run whose first alone is 0", x.run(0, place, 0xffffe, 20), (place + 1) % n);
                due("run whose last alone is 0", x.run(0, place, 0x7ffff, 20), (place + 1) % n);
            }
            promise = 12;
            due("meets behind none", x.meets(0, 0, 0), (1 << n) - 1);
            due("meets behind twenty", x.meets(0, 0, 20), (1 << n) - 1);
            OneWhistle y = hill(n, STAYED[n], "aaaaa".substring(0, n));
            due("meets whose last alone joins", y.meets(0, 1 << 19, 20), 1);
            due("meets whose first alone joins", y.meets(0, 1, 20), 1);
        }
    }

    // ---- chances

    private static void chance(String what, OneWhistle x, int n, int w, long above, long below) {
        promise = 21;
        due(what + ", drawn(0, " + n + ", " + w + ")", x.drawn(0, n, w), 1);
        promise = 22;
        due(what + ", above", x.part(0), above);
        due(what + ", below", x.part(1), below);
    }

    private static void chances() {
        for (int n = 2; n <= 5; n++) {
            OneWhistle x = hill(n, STAYED[n], "aaaaa".substring(0, n));
            chance("none", x, 0, 0, 1, n);
            chance("none", x, 0, 10, 1, n);
            chance("never 1", x, 12, 0, 1, n);
            chance("always 1", x, 1, 10, 1, 1);
            chance("always 1", x, 12, 10, 1, 1);
            x.put(0, n - 1);
            chance("never there", x, 12, 10, 0, 1);
            chance("never 1", x, 12, 0, 1, n);
        }
        OneWhistle greatest = hill(5, "abcde", "aaaaa");
        greatest.put(0, 4);
        chance("the greatest below", greatest, 12, 3, 13841287201L, 5000000000000L);
        chance("the least above", greatest, 12, 9, 1, 5000000000000L);
        greatest.put(0, 0);
        // One less four times as much.
        chance("in lowest terms", greatest, 12, 3, 1250000000000L - 13841287201L, 1250000000000L);
        OneWhistle pup = hill(2);
        pup.pup(2, row("ab"), row("ab"), row("aa"), row("aa"), 3);
        chance("as it has not learnt", pup, 3, 5, 1, 2);
        chance("as it has learnt", pup, 4, 5, 1, 1);
    }

    // ---- images

    private static void imagesAgain() {
        promise = 23;
        OneWhistle x = hill(3, "bca", "aab");
        due("image(1)", x.image(1), 1);
        long first = x.digest();
        due("from(0), which is not kept by it", x.from(0), OneWhistle.NO);
        x.dog(1, 0, 0);
        due("image(1) again", x.image(1), 1);
        long second = x.digest();
        x.places(2);
        promise = 24;
        due("from(1)", x.from(1), 1);
        due("the later one", x.digest(), second);
        due("and not the first one", x.digest() == first ? 1 : 0, 0);
        due("image(0) of it", x.image(0), 1);
        x.shut(1, true);
        due("from(0)", x.from(0), 1);
        due("digest()", x.digest(), second);
        due("from(0) again, as it is", x.from(0), 1);
        due("digest()", x.digest(), second);
        status(x, 0, 1, 0);
    }

    /** It goes on with the places and dogs of the image, whose numbers are taken again. */
    private static void imagesOfOtherPlaces() {
        promise = 24;
        OneWhistle x = hill(5, "bcdea", "aabcd", "eeeee", "abcde");
        x.shut(4, true);
        x.put(0, 3);
        x.put(1, 17);
        x.put(2, 9);
        x.image(0);
        x.places(2);
        x.image(1);
        due("a place of the old ones", x.shut(4, true), OneWhistle.BAD);
        due("from(0)", x.from(0), 1);
        due("count(0)", x.count(0), 5);
        due("count(1)", x.count(1), 2);
        due("count(2)", x.count(2), 1);
        due("goes of the second", x.goes(1, 3, 0, 0), 3);
        due("a dog more", x.dog(0, 0, 0), 2);
        due("a 4th", x.dog(0, 0, 0), OneWhistle.FULL);
        due("from(1)", x.from(1), 1);
        due("count(0)", x.count(0), 2);
        due("count(1)", x.count(1), 0);
        due("no dog is left", x.apart(0), OneWhistle.BAD);
        due("the breath of the image", x.put(2, 1), 9);
        due("from(0)", x.from(0), 1);
        due("the image has two dogs still", x.count(1), 2);
        due("goal", x.put(0, 0), 3);
        due("barks", x.put(1, 0), 17);
        due("breath", x.put(2, 1), 9);
        status(x, 2, 0, 1);
    }

    // ---- counts

    private static void countsOfNoneAndAll() {
        promise = 26;
        for (int n = 2; n <= 5; n++) {
            OneWhistle x = hill(n);
            due("count(0)", x.count(0), n);
            for (int place = 0; place < n; place++) {
                due("count(2)", x.count(2), place);
                x.shut(place, true);
            }
            due("count(2) of all", x.count(2), n);
            x.shut(0, false);
            due("count(2) less one", x.count(2), n - 1);
            for (int dogs = 0; dogs < 3; dogs++) {
                due("count(1)", x.count(1), dogs);
                due("the dog's number", x.dog(0, 0, 0), dogs);
            }
            due("count(1) of all", x.count(1), 3);
            due("count(3) of none", x.count(3), 0);
            for (int i = 1; i <= 25; i++) {
                due("type", x.type(0, 8), 8 * i);
                due("count(3)", x.count(3), 8 * i);
            }
        }
    }

    /** The same number of places again takes all away as another would; breath, text and fraction stay. */
    private static void placesAgain() {
        promise = 2;
        for (int n = 2; n <= 5; n++) {
            for (int next = 2; next <= 5; next++) {
                OneWhistle x = hill(n, STAYED[n], STAYED[n]);
                x.shut(n - 1, true);
                x.put(0, n - 1);
                x.put(1, (1 << n) - 1);
                x.put(2, 9);
                x.put(3, 8);
                x.type(0, 3);
                x.drawn(0, 0, 0);
                due("places(" + next + ")", x.places(next), n);
                due("digest()", x.digest(), digestOf(next, 0, 0, 3, 0, 0, 0, 9, 8, 1, n));
                due("the first dog's number", x.dog(0, 0, 0), 0);
            }
        }
    }

    private static void digestsOfTheGreatest() {
        promise = 27;
        OneWhistle x = hill(5);
        int most = row("eeeee");
        for (int i = 0; i < 3; i++) {
            x.pup(3, most, most, most, most, 3);
        }
        for (int place = 0; place < 5; place++) {
            x.shut(place, true);
        }
        x.put(0, 4);
        x.put(1, 31);
        x.put(2, 9);
        x.put(3, 9);
        for (int i = 0; i < 25; i++) {
            x.type(-1, 8);
        }
        x.drawn(0, 12, 3);
        due("digest()", x.digest(), digestOf(5, 3, 5, 200, 3, most, most, most, most, 3, 3, most, most, most, most, 3,
            3, most, most, most, most, 3, 31, 4, 31, 9, 9, 1, 5));
        OneWhistle least = hill(2, "aa", "aa");
        due("digest() of the least", least.digest(), digestOf(2, 1, 0, 0, 0, 0, 0, 0, 0, 0, 0, 0, 0, 1, 1, 0, 1));
    }
}
