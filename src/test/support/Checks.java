/** What the tests by hand share: answers held against what is due, and hills made and told in few words. */
class Checks {
    /** The promise whose answers are held now: it is told with each that is wrong. */
    static int promise = 0;

    private static final int MOST_TOLD = 20;
    private static int wrong = 0;
    private static int held = 0;

    static void due(String what, long got, long want) {
        held++;
        if (got == want) {
            return;
        }
        wrong++;
        if (wrong <= MOST_TOLD) {
            System.out.println("promise " + promise + ": " + what + " answered " + got + ", due is " + want);
        }
    }

    static void same(String what, String got, String want) {
        due(got.equals(want) ? what : what + " shows <" + got + "> in place of <" + want + ">,", got.equals(want) ? 1 : 0, 1);
    }

    static void close(String good) {
        System.out.println(wrong == 0 ? good + ": " + held + " answers" : wrong + " answers are not as due");
        if (wrong != 0) {
            System.exit(1);
        }
    }

    /** A row as a number to the base 8, from letters as in a hill's text. */
    static int row(String letters) {
        int row = 0;
        for (int i = letters.length() - 1; i >= 0; i--) {
            row = 8 * row + letters.charAt(i) - 'a';
        }
        return row;
    }

    /** Types a text, 8 bytes at a time, to what is there. */
    static void type(OneWhistle x, String text) {
        int before = x.count(3);
        for (int i = 0; i < text.length(); i += 8) {
            int end = Math.min(text.length(), i + 8);
            long v = 0;
            for (int k = i; k < end; k++) {
                v = v << 8 | text.charAt(k);
            }
            due("type of <" + text + ">", x.type(v, end - i), before + end);
        }
    }

    static int read(OneWhistle x, String text) {
        x.clear();
        type(x, text);
        return x.read();
    }

    /** A new object with that many places and plain dogs of two rows each. */
    static OneWhistle hill(int n, String... rows) {
        OneWhistle x = new OneWhistle();
        x.places(n);
        for (int i = 0; i + 1 < rows.length; i += 2) {
            x.dog(0, row(rows[i]), row(rows[i + 1]));
        }
        return x;
    }

    static long digestOf(long... values) {
        long h = 661;
        for (long v : values) {
            h = 31 * h + v;
        }
        return h;
    }

    static void status(OneWhistle x, int bad, int no, int full) {
        due("status(0)", x.status(0), bad);
        due("status(1)", x.status(1), no);
        due("status(2)", x.status(2), full);
    }
}
