/** Each promise of the document by small cases that were worked out by hand: ordinary ones, edges and wrong ones. */
public final class PromisesTest extends Checks {
    public static void main(String[] args) {
        newObject();
        places();
        dog();
        pup();
        shut();
        put();
        typeAndClear();
        readGood();
        readFaults();
        goes();
        runAndMeets();
        tame();
        quiet();
        apart();
        shuts();
        neighbour();
        tells();
        whichAndStarts();
        drawnAndPart();
        images();
        statusAndCount();
        digest();
        close("the promises hold");
    }

    private static void newObject() {
        promise = 1;
        OneWhistle x = new OneWhistle();
        due("digest()", x.digest(), digestOf(5, 0, 0, 0, 0, 0, 0, 1, 1, 0, 1));
        due("part(0)", x.part(0), 0);
        due("part(1)", x.part(1), 1);
        status(x, 0, 0, 0);
        due("goal", x.put(0, 1), 0);
        due("barks", x.put(1, 1), 0);
        due("breath 0", x.put(2, 2), 1);
        due("breath 1", x.put(3, 2), 1);
        due("from(0)", x.from(0), OneWhistle.NO);
        due("from(1)", x.from(1), OneWhistle.NO);
        due("read()", x.read(), -10);
        due("NONE", OneWhistle.NONE, -1);
        due("BAD", OneWhistle.BAD, -2);
        due("NO", OneWhistle.NO, -3);
        due("FULL", OneWhistle.FULL, -4);
    }

    private static void places() {
        promise = 2;
        OneWhistle x = new OneWhistle();
        due("places(3)", x.places(3), 5);
        due("places(2)", x.places(2), 3);
        due("places(5)", x.places(5), 2);
        x.dog(0, row("abcde"), 0);
        x.shut(1, true);
        x.put(0, 4);
        x.put(1, 31);
        x.put(2, 7);
        x.put(3, 8);
        x.type(65, 1);
        long before = x.digest();
        for (int n : new int[] {1, 6, 0, -1, Integer.MIN_VALUE, Integer.MAX_VALUE}) {
            due("places(" + n + ")", x.places(n), OneWhistle.BAD);
        }
        due("digest() behind BAD", x.digest(), before);
        due("places(5)", x.places(5), 5);
        due("digest()", x.digest(), digestOf(5, 0, 0, 1, 0, 0, 0, 7, 8, 0, 1));
        status(x, 6, 0, 0);
    }

    private static void dog() {
        promise = 3;
        OneWhistle x = hill(3);
        long before = x.digest();
        for (int kind : new int[] {2, 3, 5, -1, Integer.MAX_VALUE}) {
            due("dog of kind " + kind, x.dog(kind, 0, 0), OneWhistle.BAD);
        }
        for (int bad : new int[] {3, 3 << 3, 3 << 6, 1 << 9, -1, 7, Integer.MIN_VALUE, 1 << 30}) {
            due("dog with row0 " + bad, x.dog(0, bad, 0), OneWhistle.BAD);
            due("dog with row1 " + bad, x.dog(0, 0, bad), OneWhistle.BAD);
        }
        due("digest() behind BAD", x.digest(), before);
        due("dog", x.dog(0, row("ccc"), row("abc")), 0);
        due("dog", x.dog(1, row("bca"), row("cab")), 1);
        due("dog", x.dog(4, 0, 0), 2);
        due("a 4th", x.dog(0, 0, 0), OneWhistle.FULL);
        due("a 4th, and BAD", x.dog(2, 0, 0), OneWhistle.BAD);
        due("a 4th, and a BAD row", x.dog(0, 3, 0), OneWhistle.BAD);
        due("count(1)", x.count(1), 3);
        due("goes", x.goes(0, 0, 0, 0), 2);
        due("goes", x.goes(1, 1, 0, 0), 2);
        due("goes", x.goes(1, 0, 1, 0), 2);
        status(x, 23, 0, 1);
        due("row at its greatest", hill(5).dog(0, row("eeeee"), row("eeeee")), 0);
    }

    private static void pup() {
        promise = 4;
        OneWhistle x = hill(2);
        for (int kind : new int[] {0, 1, 4, 5, -1}) {
            due("pup of kind " + kind, x.pup(kind, 0, 0, 0, 0, 1), OneWhistle.BAD);
        }
        for (int m : new int[] {0, 4, -1, Integer.MIN_VALUE}) {
            due("pup that learns " + m, x.pup(2, 0, 0, 0, 0, m), OneWhistle.BAD);
        }
        due("row0", x.pup(2, 2, 0, 0, 0, 1), OneWhistle.BAD);
        due("row1", x.pup(2, 0, 64, 0, 0, 1), OneWhistle.BAD);
        due("then0", x.pup(3, 0, 0, -1, 0, 1), OneWhistle.BAD);
        due("then1", x.pup(3, 0, 0, 0, 16, 1), OneWhistle.BAD);
        due("pup", x.pup(2, row("ab"), row("ab"), row("ba"), row("bb"), 1), 0);
        due("pup", x.pup(3, row("ab"), row("bb"), row("ba"), row("bb"), 3), 1);
        due("dog", x.dog(0, 0, 0), 2);
        due("a 4th", x.pup(2, 0, 0, 0, 0, 3), OneWhistle.FULL);
        due("a 4th, and BAD", x.pup(2, 0, 0, 0, 0, 4), OneWhistle.BAD);
        status(x, 14, 0, 1);
        due("digest()", x.digest(), digestOf(2, 3, 0, 0, 2, 8, 8, 1, 9, 1, 3, 8, 9, 1, 9, 3, 0, 0, 0, 0, 0, 0,
            0, 0, 0, 1, 1, 0, 1));
    }

    private static void shut() {
        promise = 5;
        OneWhistle x = hill(3, "bca", "bca");
        due("shut(3)", x.shut(3, true), OneWhistle.BAD);
        due("shut(-1)", x.shut(-1, false), OneWhistle.BAD);
        due("shut(1, false)", x.shut(1, false), OneWhistle.NO);
        due("shut(1, true)", x.shut(1, true), 1);
        due("shut(1, true)", x.shut(1, true), OneWhistle.NO);
        due("goes to a place that is shut", x.goes(0, 0, 0, 0), 0);
        due("goes from a place that is shut", x.goes(0, 1, 0, 0), 2);
        due("count(2)", x.count(2), 1);
        due("shut(1, false)", x.shut(1, false), 1);
        due("goes", x.goes(0, 0, 0, 0), 1);
        due("shut of GOAL", x.shut(0, true), 1);
        due("shut(2, true)", x.shut(2, true), 1);
        due("count(2)", x.count(2), 2);
        status(x, 2, 2, 0);
    }

    private static void put() {
        promise = 6;
        OneWhistle x = hill(3);
        due("put(0, 2)", x.put(0, 2), 0);
        due("put(0, 0)", x.put(0, 0), 2);
        due("put(0, 3)", x.put(0, 3), OneWhistle.BAD);
        due("put(0, -1)", x.put(0, -1), OneWhistle.BAD);
        due("put(1, 7)", x.put(1, 7), 0);
        due("put(1, 0)", x.put(1, 0), 7);
        due("put(1, 8)", x.put(1, 8), OneWhistle.BAD);
        due("put(1, -1)", x.put(1, -1), OneWhistle.BAD);
        for (int what = 2; what <= 3; what++) {
            due("put(2 or 3, 9)", x.put(what, 9), 1);
            due("put(2 or 3, 1)", x.put(what, 1), 9);
            due("put(2 or 3, 0)", x.put(what, 0), OneWhistle.BAD);
            due("put(2 or 3, 10)", x.put(what, 10), OneWhistle.BAD);
        }
        due("put(4, 1)", x.put(4, 1), OneWhistle.BAD);
        due("put(-1, 1)", x.put(-1, 1), OneWhistle.BAD);
        status(x, 10, 0, 0);
    }

    private static void typeAndClear() {
        promise = 7;
        OneWhistle x = new OneWhistle();
        // places 2; in parts, with bytes above the told ones that must not count.
        due("type", x.type(0x1122706c61636573L, 6), 6);
        due("type", x.type(0x2032L, 2), 8);
        due("type", x.type(-1L << 8 | 0x3b, 1), 9);
        due("read()", x.read(), 0);
        due("count(0)", x.count(0), 2);
        due("type(0, 0)", x.type(0, 0), OneWhistle.BAD);
        due("type(0, 9)", x.type(0, 9), OneWhistle.BAD);
        due("type(0, -1)", x.type(0, -1), OneWhistle.BAD);
        for (int i = 0; i < 23; i++) {
            x.type(0x2020202020202020L, 8);
        }
        due("count(3)", x.count(3), 193);
        due("type that is too long", x.type(0, 8), OneWhistle.FULL);
        due("type that is too long, and BAD", x.type(0, 9), OneWhistle.BAD);
        due("count(3)", x.count(3), 193);
        due("type up to the end", x.type(0x20202020202020L, 7), 200);
        due("type beyond the end", x.type(32, 1), OneWhistle.FULL);
        due("read() with blanks at the end", x.read(), 0);
        status(x, 4, 0, 2);
        promise = 8;
        due("clear()", x.clear(), 200);
        due("clear()", x.clear(), 0);
        due("count(3)", x.count(3), 0);
        due("type", x.type(-1, 8), 8);
        due("read() of 255", x.read(), -10);
    }

    private static void readGood() {
        promise = 9;
        OneWhistle x = new OneWhistle();
        x.places(2);
        x.dog(0, 0, 0);
        x.shut(1, true);
        x.put(2, 5);
        x.drawn(0, 0, 0);
        x.image(0);
        due("read()", read(x, "places 3;"), 0);
        due("digest() with THE FRACTION", x.digest(), digestOf(3, 0, 0, 9, 0, 0, 0, 1, 1, 1, 2));
        due("count(3)", x.count(3), 9);
        String all = "places 3;shut 1;shut 1;goal 1;goal 2;barks 0;barks 2;breath 0 9;breath 1 3;dog 4 cba aaa;";
        due("read()", read(x, all), 1);
        due("digest()", x.digest(), digestOf(3, 1, 1, all.length(), 4, row("cba"), 0, 0, 0, 0, 2, 2, 5, 9, 3, 1, 2));
        String spaced = "  places   2  ;dog 2 ab ba aa bb 3  ;  dog3ab ba aa bb1;  ";
        due("read() with blanks", read(x, spaced), 2);
        due("digest()", x.digest(), digestOf(2, 2, 0, spaced.length(), 2, row("ab"), row("ba"), 0, row("bb"), 3,
            3, row("ab"), row("ba"), 0, row("bb"), 1, 0, 0, 0, 1, 1, 1, 2));
        due("from(0)", x.from(0), 1);
        due("count(1) of the image", x.count(1), 1);
        due("count(0) of the image", x.count(0), 2);
        due("read() again", x.read(), 2);
        status(x, 0, 0, 0);
    }

    private static void fault(String text, int at) {
        OneWhistle x = hill(4, "abcd", "dcba");
        x.put(3, 4);
        x.clear();
        type(x, text);
        long before = x.digest();
        due("read of <" + text + ">", x.read(), -10 - at);
        due("digest() behind <" + text + ">", x.digest(), before);
        status(x, 0, 0, 0);
    }

    private static void readFaults() {
        promise = 9;
        fault("", 0);
        fault("   ", 3);
        fault("place 3;", 0);
        fault("placess 3;", 0);
        fault(" ;", 1);
        fault("goal 0;places 3;", 0);
        fault("3;", 0);
        fault("Places 3;", 0);
        fault("places", 6);
        fault("places ", 7);
        fault("places;", 6);
        fault("places x;", 7);
        fault("places 1;", 7);
        fault("places 6;", 7);
        fault("places 03;", 7);
        fault("places 33;", 7);
        fault("places 3", 8);
        fault("places 3 ", 9);
        fault("places 3 3;", 9);
        fault("places 3 goal 0;", 9);
        fault("places 3;;", 9);
        fault("places 3;places 3;", 9);
        fault("places 3;dogs 0 abc abc;", 9);
        fault("places 3;do", 9);
        fault("places 3;2;", 9);
        fault("places 3;goal", 13);
        fault("places 3;goal;", 13);
        fault("places 3;goal 3;", 14);
        fault("places 3;goal 00;", 14);
        fault("places 3;shut a;", 14);
        fault("places 3;shut 2", 15);
        fault("places 3;shut 3;", 14);
        fault("places 3;barks 3;", 15);
        fault("places 3;breath 2 1;", 16);
        fault("places 3;breath 0 0;", 18);
        fault("places 3;breath 1 10;", 18);
        fault("places 3;breath 01;", 16);
        fault("places 3;breath 1 ;", 18);
        fault("places 3;dog", 12);
        fault("places 3;dog 5 abc abc;", 13);
        fault("places 3;dog abc abc;", 13);
        fault("places 3;dog 0 ab abc;", 15);
        fault("places 3;dog 0 abca abc;", 15);
        fault("places 3;dog 0 abd abc;", 15);
        fault("places 3;dog 0 abc dog;", 19);
        fault("places 3;dog 0 abc;", 18);
        fault("places 3;dog 0 abc abc 1;", 23);
        fault("places 3;dog 0 abc abc", 22);
        fault("places 3;dog 0 abc ab", 19);
        fault("places 3;dog 2 abc abc;", 22);
        fault("places 3;dog 2 abc abc 1;", 23);
        fault("places 3;dog 3 abc abc abc abc;", 30);
        fault("places 3;dog 3 abc abc abc abc 0;", 31);
        fault("places 3;dog 3 abc abc abc abc 4;", 31);
        fault("places 3;dog 1 abc abc abc abc 1;", 23);
        fault("places 2;dog 0 ab ab;dog 1 ab ab;dog 4 ab ab;dog", 45);
        fault("places 2;dog 0 ab ab;dog 1 ab ab;dog 4 ab ab; dog 9", 46);
        fault("places 3;goal\t1;", 13);
        fault("places 3;goal 1,", 15);
        fault("places 3;" + (char) 233, 9);
        fault("places 3;" + (char) 0, 9);
        fault("places 3;goal 3;places 9;", 14);
    }

    private static void goes() {
        promise = 10;
        OneWhistle x = hill(4, "bcda", "aacc");
        x.dog(1, row("bcda"), row("aacc"));
        x.dog(4, row("bcda"), row("aacc"));
        for (int t : new int[] {0, 1, 2, 3, 50, 98, 99}) {
            boolean odd = t % 2 == 1;
            for (int place = 0; place < 4; place++) {
                due("PLAIN", x.goes(0, place, 0, t), (place + 1) % 4);
                due("PLAIN", x.goes(0, place, 1, t), place - place % 2);
                due("DEAF", x.goes(1, place, 0, t), odd ? place : (place + 1) % 4);
                due("DEAF", x.goes(1, place, 1, t), odd ? place : place - place % 2);
                due("STUBBORN", x.goes(2, place, 0, t), odd ? (place + 1) % 4 : place);
                due("STUBBORN", x.goes(2, place, 1, t), odd ? place - place % 2 : place);
            }
        }
        due("a 4th dog", x.goes(3, 0, 0, 0), OneWhistle.BAD);
        due("no dog", x.goes(-1, 0, 0, 0), OneWhistle.BAD);
        due("no place", x.goes(0, 4, 0, 0), OneWhistle.BAD);
        due("no place", x.goes(0, -1, 0, 0), OneWhistle.BAD);
        due("no whistle", x.goes(0, 0, 2, 0), OneWhistle.BAD);
        due("no whistle", x.goes(0, 0, -1, 0), OneWhistle.BAD);
        due("t", x.goes(0, 0, 0, -1), OneWhistle.BAD);
        due("t", x.goes(0, 0, 0, 100), OneWhistle.BAD);
        status(x, 8, 0, 0);
        goesOfThoseThatLearn();
    }

    private static void goesOfThoseThatLearn() {
        for (int m = 1; m <= 3; m++) {
            OneWhistle y = hill(5);
            y.pup(2, row("abcde"), row("aaaaa"), row("bcdea"), row("eabcd"), m);
            y.pup(3, row("abcde"), row("aaaaa"), row("bcdea"), row("eabcd"), m);
            for (int t = 0; t <= 99; t++) {
                due("PUP", y.goes(0, 2, 0, t), t >= m ? 3 : 2);
                due("PUP", y.goes(0, 2, 1, t), t >= m ? 1 : 0);
                due("KEEN", y.goes(1, 2, 0, t), t >= m ? 4 : 2);
                due("KEEN", y.goes(1, 2, 1, t), 0);
            }
            y.shut(4, true);
            due("KEEN whose second going is shut", y.goes(1, 2, 0, 9), 3);
            due("KEEN whose first going is shut", y.goes(1, 3, 0, 9), 3);
            due("KEEN that comes from a place that is shut", y.goes(1, 4, 0, 9), 1);
            due("PUP to a place that is shut", y.goes(0, 3, 0, 9), 3);
        }
    }

    private static void runAndMeets() {
        promise = 11;
        OneWhistle x = hill(3, "bca", "aab");
        x.dog(1, row("bca"), row("aab"));
        due("run of nothing", x.run(0, 2, 0, 0), 2);
        due("run, lowest bit first", x.run(0, 2, 1, 2), 2);
        due("run, lowest bit first", x.run(0, 2, 2, 2), 0);
        due("run of 20", x.run(0, 0, 0, 20), 2);
        due("run of 20 by DEAF", x.run(1, 0, 0, 20), 1);
        due("run of 20, the last bit", x.run(0, 0, 1 << 19, 20), 0);
        due("a tune with too many bits", x.run(0, 0, 2, 1), OneWhistle.BAD);
        due("a tune with too many bits", x.run(0, 0, 1, 0), OneWhistle.BAD);
        due("a tune with too many bits", x.run(0, 0, 1 << 20, 20), OneWhistle.BAD);
        due("a tune below 0", x.run(0, 0, -1, 20), OneWhistle.BAD);
        due("a tune too long", x.run(0, 0, 0, 21), OneWhistle.BAD);
        due("a tune too long", x.run(0, 0, 0, 32), OneWhistle.BAD);
        due("a tune too short", x.run(0, 0, 0, -1), OneWhistle.BAD);
        due("no dog", x.run(2, 0, 0, 0), OneWhistle.BAD);
        due("no place", x.run(0, 3, 0, 0), OneWhistle.BAD);
        promise = 12;
        due("meets of nothing", x.meets(0, 0, 0), 7);
        due("meets", x.meets(0, 1, 1), 3);
        due("meets", x.meets(0, 3, 2), 1);
        due("meets", x.meets(0, 1, 2), 6);
        x.shut(0, true);
        due("meets from a place that is shut, too", x.meets(0, 0, 1), 6);
        due("meets, with one that is shut", x.meets(0, 1, 1), 3);
        due("a tune with too many bits", x.meets(0, 2, 1), OneWhistle.BAD);
        due("a tune too long", x.meets(0, 0, 21), OneWhistle.BAD);
        due("a tune too short", x.meets(0, 0, -1), OneWhistle.BAD);
        due("no dog", x.meets(2, 0, 0), OneWhistle.BAD);
        status(x, 13, 0, 0);
    }

    private static void tamed(OneWhistle x, int dogs, int length, int tune) {
        due("tame(" + dogs + ", 0)", x.tame(dogs, 0), length);
        due("tame(" + dogs + ", 1)", x.tame(dogs, 1), tune);
    }

    private static void tame() {
        promise = 13;
        OneWhistle x = hill(2, "ba", "aa");
        tamed(x, 0, 0, 0);
        tamed(x, 1, 1, 1);
        x.put(0, 1);
        tamed(x, 1, 2, 1);
        // Both 0 then 1 and 1 then 0 do: the one with 0 first is due, though its number is the greater.
        tamed(hill(3, "aac", "aba"), 1, 2, 2);
        tamed(hill(2, "ba", "ba"), 1, -1, -1);
        // Each alone is tamed at once, by unlike whistles; together they need both.
        OneWhistle two = hill(2, "aa", "ab", "ab", "aa");
        tamed(two, 1, 1, 0);
        tamed(two, 2, 1, 1);
        tamed(two, 3, 2, 2);
        OneWhistle never = hill(2, "aa", "bb", "bb", "aa");
        tamed(never, 3, -1, -1);
        // The third one always stays.
        OneWhistle three = hill(2, "aa", "ab", "ab", "aa", "ab", "ab");
        tamed(three, 7, -1, -1);
        OneWhistle shut = hill(3, "bca", "bca");
        tamed(shut, 1, -1, -1);
        shut.shut(1, true);
        tamed(shut, 1, 2, 0);
        due("tame(2, 0)", shut.tame(2, 0), -10);
        due("tame(-1, 0)", shut.tame(-1, 0), -10);
        due("tame(1, 2)", shut.tame(1, 2), -10);
        due("tame(1, -1)", shut.tame(1, -1), -10);
        status(shut, 4, 0, 0);
        tameAtTheEnd();
    }

    /** Five places in which the shortest tune has 16 whistles, and goals for which it has up to 20 or none. */
    private static void tameAtTheEnd() {
        OneWhistle x = hill(5, "bcdea", "bbcde");
        int[] lengths = {20, 16, 17, 18, 19};
        for (int goal = 0; goal < 5; goal++) {
            x.put(0, goal);
            due("tame with goal " + goal, x.tame(1, 0), lengths[goal]);
            int tune = x.tame(1, 1);
            due("meets behind it", x.meets(0, tune, lengths[goal]), 1 << goal);
        }
        OneWhistle deaf = new OneWhistle();
        deaf.dog(1, row("bcdea"), row("bbcde"));
        due("tame of DEAF, which would need 39", deaf.tame(1, 0), -1);
        due("its quiet", deaf.quiet(1), -1);
    }

    private static void quiet() {
        promise = 14;
        OneWhistle x = hill(3, "aaa", "aab");
        due("quiet(0)", x.quiet(0), 0);
        due("quiet(1)", x.quiet(1), 1);
        x.put(2, 9);
        x.put(3, 2);
        due("quiet by a longer tune", x.quiet(1), 4);
        tamed(x, 1, 1, 0);
        x.put(2, 3);
        due("quiet by the short one", x.quiet(1), 3);
        OneWhistle limit = hill(5, "bcdea", "bbcde");
        limit.put(0, 1);
        limit.put(2, 9);
        limit.put(3, 5);
        // The only tune of 16 has 12 of whistle 0 and 4 of whistle 1.
        due("quiet(1)", limit.quiet(1), 12 * 9 + 4 * 5);
        quietByTwenty();
        due("quiet of none", hill(2, "ba", "ba").quiet(1), OneWhistle.NONE);
        due("quiet(2)", x.quiet(2), OneWhistle.BAD);
        due("quiet(-1)", x.quiet(-1), OneWhistle.BAD);
        due("quiet(8)", x.quiet(8), OneWhistle.BAD);
        status(x, 3, 0, 0);
    }

    /** Who comes to the same places later with less breath must not stand for who still has time to come to the goal. */
    private static void quietByTwenty() {
        OneWhistle two = new OneWhistle();
        two.dog(0, 10499, 17475);
        two.dog(0, 5249, 2059);
        two.put(0, 3);
        two.put(3, 3);
        due("quiet by a tune of 20", two.quiet(3), 9 + 11 * 3);
        tamed(two, 3, 20, 713436);
        due("one dog behind it", two.meets(0, 713436, 20), 1 << 3);
        due("the other one behind it", two.meets(1, 713436, 20), 1 << 3);
        OneWhistle three = new OneWhistle();
        three.places(4);
        three.dog(0, 1227, 83);
        three.dog(0, 1043, 1089);
        three.dog(0, 209, 1034);
        three.put(3, 3);
        due("quiet of three dogs by a tune of 20", three.quiet(7), 11 + 9 * 3);
    }

    private static void apart() {
        promise = 15;
        due("all stay", hill(3, "abc", "abc").apart(0), 1);
        due("0 and 1 meet, 0 and 2 never", hill(3, "aac", "abc").apart(0), 2);
        due("all meet", hill(3, "aab", "abc").apart(0), OneWhistle.NONE);
        OneWhistle x = hill(3);
        // What it does first joins 0 with 1 or 0 with 2, and nothing is joined behind that.
        x.pup(2, row("aac"), row("aba"), row("abc"), row("bca"), 1);
        due("only 1 and 2 never", x.apart(0), 12);
        OneWhistle late = hill(5, "bcdea", "bbcde");
        due("it takes long", late.apart(0), OneWhistle.NONE);
        OneWhistle far = new OneWhistle();
        far.pup(2, row("aaccc"), row("aaccc"), row("bcdea"), row("bbcde"), 1);
        due("it takes long from what is first come to", far.apart(0), OneWhistle.NONE);
        OneWhistle last = hill(4);
        last.pup(3, row("aabc"), row("aabc"), row("abcd"), row("abcd"), 2);
        due("2 and 3 come to 0 and 1", last.apart(0), 3);
        OneWhistle shut = hill(2, "aa", "aa");
        shut.shut(0, true);
        due("by what is shut", shut.apart(0), 1);
        due("no dog", shut.apart(1), OneWhistle.BAD);
        due("no dog", shut.apart(-1), OneWhistle.BAD);
        status(shut, 2, 0, 0);
    }

    private static void shuts() {
        promise = 16;
        OneWhistle x = hill(3, "bca", "bca");
        due("none are needed for none", x.shuts(0), 0);
        due("one is needed", x.shuts(1), 2);
        x.shut(0, true);
        x.shut(2, true);
        due("in place of what is shut", x.shuts(1), 2);
        due("which stays so", x.count(2), 2);
        x.put(0, 2);
        due("never the goal", x.shuts(1), 1);
        due("all that stay", hill(3, "abc", "abc").shuts(1), OneWhistle.NONE);
        due("none is needed", hill(3, "aab", "abc").shuts(1), 0);
        due("4 that go round", hill(4, "bcda", "bcda").shuts(1), 2);
        // The first dog keeps from leaving 0 only with 1 shut, the second only with 2 shut.
        OneWhistle two = hill(3, "bca", "bca", "cab", "cab");
        due("one each", two.shuts(1), 2);
        due("one each", two.shuts(2), 4);
        due("both shut: 1 and 2 come to 0 no more", two.shuts(3), OneWhistle.NONE);
        OneWhistle back = hill(3, "baa", "baa", "caa", "caa");
        due("two are needed", back.shuts(3), 6);
        due("one for one", back.shuts(2), 4);
        OneWhistle fewest = hill(5, "dcbea", "ebadc");
        fewest.put(0, 2);
        due("one of more bits ahead of two of fewer", fewest.shuts(1), 8);
        fewest.shut(0, true);
        fewest.shut(1, true);
        due("though the two would do", fewest.tame(1, 0) >= 0 ? 1 : 0, 1);
        due("shuts(2)", x.shuts(2), OneWhistle.BAD);
        due("shuts(-1)", x.shuts(-1), OneWhistle.BAD);
        status(x, 2, 0, 0);
    }

    private static void neighbour() {
        promise = 17;
        OneWhistle x = hill(2, "aa", "aa", "ba", "ba");
        due("neighbour", x.neighbour(1, 1, 0, 0), 2);
        due("neighbour", x.neighbour(1, 1, 1, 1), 0);
        due("by none", x.neighbour(0, 1, 1, 0), 0);
        due("by none", x.neighbour(0, 1, 1, 1), 0);
        OneWhistle way = hill(2, "aa", "ab", "bb", "aa");
        due("he comes back by 1", way.neighbour(1, 1, 0, 0), 2);
        due("he comes back by 1", way.neighbour(1, 1, 0, 1), 2);
        due("he is there at once", way.neighbour(1, 1, 1, 0), 1);
        OneWhistle gone = hill(2, "aa", "aa", "bb", "bb");
        due("he never comes back", gone.neighbour(1, 1, 0, 0), OneWhistle.NONE);
        due("he never comes back", gone.neighbour(1, 1, 0, 1), OneWhistle.NONE);
        due("he is one of them", x.neighbour(2, 1, 0, 0), -10);
        due("he is one of them", x.neighbour(3, 0, 0, 0), -10);
        due("no dogs", x.neighbour(4, 0, 0, 0), -10);
        due("no dogs", x.neighbour(-1, 0, 0, 0), -10);
        due("no dog", x.neighbour(1, 2, 0, 0), -10);
        due("no dog", x.neighbour(1, -1, 0, 0), -10);
        due("no place", x.neighbour(1, 1, 2, 0), -10);
        due("what", x.neighbour(1, 1, 0, 2), -10);
        status(x, 8, 0, 0);
    }

    private static void told(OneWhistle x, int places, int howMany, int ifBarked, int ifNot) {
        due("tells(0, " + places + ", 0)", x.tells(0, places, 0), howMany);
        due("tells(0, " + places + ", 1)", x.tells(0, places, 1), ifBarked);
        due("tells(0, " + places + ", 2)", x.tells(0, places, 2), ifNot);
    }

    private static void tells() {
        promise = 18;
        OneWhistle x = hill(3, "bca", "bca");
        x.put(1, 1);
        told(x, 7, 1, -1, 0);
        told(x, 3, 0, -1, -1);
        told(x, 4, 0, -1, -1);
        OneWhistle stays = hill(3, "abc", "bca");
        stays.put(1, 3);
        told(stays, 7, 1, 1, -1);
        OneWhistle joins = hill(3, "aac", "aac");
        joins.put(1, 4);
        told(joins, 7, -1, -1, -5);
        told(joins, 5, 0, -1, -1);
        OneWhistle silent = hill(2, "ba", "ba");
        told(silent, 3, -1, -1, -5);
        // With 4 in a row and a bark at its end, 0 and 1 are told by the third.
        OneWhistle line = hill(5, "bcdee", "bcdee");
        line.put(1, 16);
        told(line, 3, 3, -1, 0);
        OneWhistle eight = hill(5);
        // Only at odd times it goes: 0 is at 4 behind 8 whistles, 1 behind 6.
        eight.dog(4, row("bcdee"), row("bcdee"));
        eight.put(1, 16);
        told(eight, 3, 6, -1, 0);
        told(eight, 12, 2, -1, 0);
        tellsAtTheEnd();
        due("no place", x.tells(0, 0, 0), -10);
        due("no place", x.tells(0, 8, 0), -10);
        due("no place", x.tells(0, -1, 0), -10);
        due("no dog", x.tells(1, 1, 0), -10);
        due("what", x.tells(0, 1, 3), -10);
        due("what", x.tells(0, 1, -1), -10);
        status(x, 6, 0, 0);
    }

    /** What takes a PLAIN dog 4 goings takes DEAF 7 and STUBBORN 8 whistles; 5 goings are too many for both. */
    private static void tellsAtTheEnd() {
        OneWhistle four = hill(5, "edbca", "cdabe");
        four.dog(1, row("edbca"), row("cdabe"));
        four.dog(4, row("edbca"), row("cdabe"));
        four.put(1, 8);
        due("4 by PLAIN", four.tells(0, 31, 0), 4);
        due("4 by DEAF", four.tells(1, 31, 0), 7);
        due("4 by STUBBORN", four.tells(2, 31, 0), 8);
        due("4 by STUBBORN, FIRST", four.tells(2, 31, 2), 0);
        OneWhistle five = hill(5, "bdace", "edbca");
        five.dog(1, row("bdace"), row("edbca"));
        five.dog(4, row("bdace"), row("edbca"));
        five.put(1, 15);
        due("5 by PLAIN", five.tells(0, 31, 0), 5);
        due("5 by DEAF", five.tells(1, 31, 0), -1);
        due("5 by STUBBORN", five.tells(2, 31, 0), -1);
    }

    private static void whichAndStarts() {
        OneWhistle x = hill(3, "bca", "bca", "aaa", "bbb");
        x.put(1, 1);
        promise = 20;
        due("starts, silent", x.starts(0, 0, 2, 0), 1);
        due("starts, second", x.starts(0, 0, 2, 2), 2);
        due("starts, first", x.starts(0, 3, 2, 1), 4);
        due("starts, both", x.starts(0, 0, 2, 3), 0);
        due("starts of the other", x.starts(1, 2, 2, 1), 7);
        due("starts behind 16", x.starts(0, 0, 16, 0x4924), 1);
        due("starts behind 16", x.starts(0, 0xffff, 16, 0x2492), 2);
        due("no dog", x.starts(2, 0, 1, 0), OneWhistle.BAD);
        due("17", x.starts(0, 0, 17, 0), OneWhistle.BAD);
        due("0", x.starts(0, 0, 0, 0), OneWhistle.BAD);
        due("tune", x.starts(0, 2, 1, 0), OneWhistle.BAD);
        due("barks", x.starts(0, 0, 1, 2), OneWhistle.BAD);
        due("barks", x.starts(0, 0, 1, -1), OneWhistle.BAD);
        promise = 19;
        due("which, silent", x.which(3, 2, 0), 3);
        due("which, first", x.which(2, 2, 1), 3);
        due("which, both", x.which(0, 2, 3), 2);
        due("which, neither", x.which(3, 2, 3), 0);
        due("which of no dogs", new OneWhistle().which(0, 16, 0), 0);
        due("17", x.which(0, 17, 0), OneWhistle.BAD);
        due("0", x.which(0, 0, 0), OneWhistle.BAD);
        due("tune", x.which(1 << 16, 16, 0), OneWhistle.BAD);
        due("tune", x.which(-1, 16, 0), OneWhistle.BAD);
        due("barks", x.which(0, 16, 1 << 16), OneWhistle.BAD);
        status(x, 11, 0, 0);
    }

    private static void drawn(OneWhistle x, int n, int w, long above, long below) {
        promise = 21;
        due("drawn(0, " + n + ", " + w + ")", x.drawn(0, n, w), 1);
        promise = 22;
        due("part(0) behind drawn(0, " + n + ", " + w + ")", x.part(0), above);
        due("part(1) behind drawn(0, " + n + ", " + w + ")", x.part(1), below);
    }

    private static void drawnAndPart() {
        OneWhistle x = hill(2, "ab", "aa");
        drawn(x, 0, 3, 1, 2);
        drawn(x, 1, 3, 13, 20);
        drawn(x, 2, 3, 151, 200);
        drawn(x, 12, 0, 1, 2);
        drawn(x, 1, 10, 1, 1);
        drawn(x, 12, 5, 8191, 8192);
        x.put(0, 1);
        drawn(x, 3, 10, 0, 1);
        drawn(x, 12, 3, 13841287201L, 2000000000000L);
        promise = 21;
        due("n", x.drawn(0, 13, 0), OneWhistle.BAD);
        due("n", x.drawn(0, -1, 0), OneWhistle.BAD);
        due("w", x.drawn(0, 0, 11), OneWhistle.BAD);
        due("w", x.drawn(0, 0, -1), OneWhistle.BAD);
        due("no dog", x.drawn(1, 0, 0), OneWhistle.BAD);
        promise = 22;
        due("part(0) behind BAD", x.part(0), 13841287201L);
        due("part(2)", x.part(2), OneWhistle.BAD);
        due("part(-1)", x.part(-1), OneWhistle.BAD);
        status(x, 7, 0, 0);
        OneWhistle deaf = hill(2);
        deaf.dog(1, row("ab"), row("aa"));
        drawn(deaf, 2, 3, 13, 20);
        drawn(deaf, 3, 3, 151, 200);
    }

    private static void images() {
        promise = 23;
        OneWhistle x = hill(3, "bca", "aab");
        x.shut(2, true);
        x.put(0, 1);
        x.put(1, 5);
        x.put(2, 4);
        x.put(3, 6);
        long before = x.digest();
        due("image(0)", x.image(0), 1);
        due("image(2)", x.image(2), OneWhistle.BAD);
        due("image(-1)", x.image(-1), OneWhistle.BAD);
        promise = 24;
        due("from(1)", x.from(1), OneWhistle.NO);
        due("from(2)", x.from(2), OneWhistle.BAD);
        due("from(-1)", x.from(-1), OneWhistle.BAD);
        x.dog(4, 0, 0);
        x.shut(2, false);
        x.put(0, 2);
        x.put(1, 0);
        x.put(2, 1);
        x.put(3, 1);
        due("image(1)", x.image(1), 1);
        long later = x.digest();
        x.places(2);
        due("from(0)", x.from(0), 1);
        due("digest()", x.digest(), before);
        x.put(0, 0);
        x.shut(0, true);
        x.pup(2, 0, 0, 0, 0, 1);
        due("from(0) again", x.from(0), 1);
        due("digest()", x.digest(), before);
        due("from(1)", x.from(1), 1);
        due("digest()", x.digest(), later);
        status(x, 4, 1, 0);
        x.type(65, 1);
        x.drawn(0, 0, 0);
        due("from(0)", x.from(0), 1);
        due("THE TEXT stays", x.count(3), 1);
        due("THE FRACTION stays", x.part(1), 3);
        due("IMAGES stay", x.from(1), 1);
    }

    private static void statusAndCount() {
        promise = 25;
        OneWhistle x = hill(2);
        status(x, 0, 0, 0);
        due("status(3)", x.status(3), -1);
        due("status(-1)", x.status(-1), -1);
        x.shut(0, false);
        x.tame(1, 0);
        x.dog(0, 0, 0);
        x.dog(0, row("bb"), row("bb"));
        x.dog(0, 0, 0);
        x.dog(0, 0, 0);
        status(x, 3, 1, 1);
        due("NONE is not refused", x.tame(3, 0), OneWhistle.NONE);
        due("NONE is not refused", x.apart(0), OneWhistle.NONE);
        due("a FAULT is not refused", x.read(), -10);
        due("-5 is not refused", x.tells(0, 3, 2), -5);
        status(x, 3, 1, 1);
        promise = 26;
        x.shut(0, true);
        x.type(65, 1);
        due("count(0)", x.count(0), 2);
        due("count(1)", x.count(1), 3);
        due("count(2)", x.count(2), 1);
        due("count(3)", x.count(3), 1);
        due("count(4)", x.count(4), OneWhistle.BAD);
        due("count(-1)", x.count(-1), OneWhistle.BAD);
        status(x, 5, 1, 1);
    }

    private static void digest() {
        promise = 27;
        OneWhistle x = hill(3, "bca", "aab");
        x.pup(3, row("abc"), row("ccc"), row("cab"), row("bbb"), 2);
        x.shut(1, true);
        x.shut(2, true);
        x.put(0, 2);
        x.put(1, 6);
        x.put(2, 3);
        x.put(3, 9);
        x.type(65, 1);
        x.drawn(0, 0, 0);
        due("digest()", x.digest(), digestOf(3, 2, 2, 1, 0, row("bca"), row("aab"), 0, 0, 0,
            3, row("abc"), row("ccc"), row("cab"), row("bbb"), 2, 6, 2, 6, 3, 9, 1, 3));
        due("digest() again", x.digest(), digestOf(3, 2, 2, 1, 0, row("bca"), row("aab"), 0, 0, 0,
            3, row("abc"), row("ccc"), row("cab"), row("bbb"), 2, 6, 2, 6, 3, 9, 1, 3));
    }
}
