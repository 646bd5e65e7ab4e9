import java.util.ArrayList;
import java.util.List;

/**
 * Promise 9 at its edges: where a text ends, what can stand at each token of it, each of the 256 bytes at each kind of
 * spot, how many bytes and dogs there can be, and what a hill that is read takes the place of.
 */
public final class TextEdgesTest extends Checks {
    /** What can stand at a token. */
    private enum Spot { FIRST, COUNT, MARK, WORD, DOG, PLACE, WHISTLE, BREATH, ROWS_KIND, LEARNING_KIND, ROW, LEARNS }

    private record Token(String sign, Spot spot) { }

    /** Words, rows of each length, figures, what is neither: one of each sort that there is. */
    private static final String[] OTHERS = {"places", "shut", "goal", "barks", "breath", "dog", "place", "dogs", "x", "a",
        "ab", "ba", "ac", "za", "abc", "cba", "abd", "abcd", "dcba", "abce", "abcde", "edcba", "abcdf", "abcdea", "0", "1",
        "2", "3", "4", "5", "6", "7", "8", "9", "00", "01", "02", "10", "12", "22", "33", "100", ";", ":", "A", "B", "-",
        "-1", "+1", "\t", "\n", ",", "'", "`", "{", "/", "\u0000", "\u001f", "!", "\u007f", "\u0080", "\u00a0", "\u00e9",
        "\u00ff"};

    public static void main(String[] args) {
        promise = 9;
        for (int n = 2; n <= 5; n++) {
            for (String blanks : new String[] {" ", "  "}) {
                List<Token> tokens = everyItem(n);
                endedAtEachByte(tokens, blanks);
                otherTokens(tokens, blanks, n);
            }
        }
        blanksWhereTokensPart();
        eachByte();
        wordsThatAreNone();
        placesFirstAndOnce();
        dogsByNumber();
        lengthsOfTexts();
        itemsAgain();
        learningRowsInTheirOrder();
        takesThePlaceOfAll();
        imagesStay();
        typedInParts();
        close("the texts hold");
    }

    // ---- texts as tokens

    private static List<Token> everyItem(int n) {
        String last = String.valueOf(n - 1);
        String turned = "bcdea".substring(0, n - 1) + "a";
        List<Token> all = new ArrayList<>();
        add(all, "places", Spot.FIRST, String.valueOf(n), Spot.COUNT, ";", Spot.MARK);
        add(all, "shut", Spot.WORD, last, Spot.PLACE, ";", Spot.MARK);
        add(all, "goal", Spot.WORD, last, Spot.PLACE, ";", Spot.MARK);
        add(all, "barks", Spot.WORD, "0", Spot.PLACE, ";", Spot.MARK);
        add(all, "breath", Spot.WORD, "0", Spot.WHISTLE, "9", Spot.BREATH, ";", Spot.MARK);
        add(all, "breath", Spot.WORD, "1", Spot.WHISTLE, "1", Spot.BREATH, ";", Spot.MARK);
        add(all, "dog", Spot.DOG, "1", Spot.ROWS_KIND, turned, Spot.ROW, turned, Spot.ROW, ";", Spot.MARK);
        add(all, "dog", Spot.DOG, "3", Spot.LEARNING_KIND, turned, Spot.ROW, turned, Spot.ROW, turned, Spot.ROW, turned,
            Spot.ROW, "3", Spot.LEARNS, ";", Spot.MARK);
        add(all, "dog", Spot.DOG, "4", Spot.ROWS_KIND, turned, Spot.ROW, turned, Spot.ROW, ";", Spot.MARK);
        return all;
    }

    private static void add(List<Token> all, Object... signsAndSpots) {
        for (int i = 0; i < signsAndSpots.length; i += 2) {
            all.add(new Token((String) signsAndSpots[i], (Spot) signsAndSpots[i + 1]));
        }
    }

    private static String joined(List<Token> tokens, String blanks) {
        StringBuilder text = new StringBuilder();
        for (Token token : tokens) {
            text.append(text.length() == 0 ? "" : blanks).append(token.sign);
        }
        return text.toString();
    }

    /** A text at fault: its place is told, and all stays, with nothing refused. */
    private static void fault(String text, int at) {
        OneWhistle x = hill(4, "abcd", "dcba");
        x.put(3, 4);
        x.drawn(0, 1, 1);
        type(x, text);
        long before = x.digest();
        due("read of <" + text + ">", x.read(), -10 - at);
        due("read again of <" + text + ">", x.read(), -10 - at);
        due("digest() behind <" + text + ">", x.digest(), before);
        status(x, 0, 0, 0);
    }

    private static void reads(String text, int dogs) {
        due("read of <" + text + ">", read(new OneWhistle(), text), dogs);
    }

    /** Cut within a token, a text has that token's fault, as no part of one is one; cut behind a token, its length. */
    private static void endedAtEachByte(List<Token> tokens, String blanks) {
        String whole = joined(tokens, blanks);
        reads(whole, 3);
        fault("", 0);
        int start = 0;
        int dogs = 0;
        for (Token token : tokens) {
            int end = start + token.sign.length();
            for (int length = start + 1; length < end; length++) {
                fault(whole.substring(0, length), start);
            }
            dogs += token.spot == Spot.DOG ? 1 : 0;
            for (int length = end; length <= end + blanks.length() && length <= whole.length(); length++) {
                String cut = whole.substring(0, length);
                if (token.spot == Spot.MARK) {
                    reads(cut, dogs);
                } else {
                    fault(cut, length);
                }
            }
            start = end + blanks.length();
        }
    }

    /** Another token in the place of each: it can stand there, or the fault is where it begins. */
    private static void otherTokens(List<Token> tokens, String blanks, int n) {
        int start = 0;
        for (int i = 0; i < tokens.size(); i++) {
            Token old = tokens.get(i);
            for (String sign : OTHERS) {
                List<Token> changed = new ArrayList<>(tokens);
                changed.set(i, new Token(sign, old.spot));
                String text = joined(changed, blanks);
                if (text.length() > 200) {
                    continue;
                }
                if (!canStand(old.spot, sign, n)) {
                    fault(text, start);
                } else if (leavesTheRest(old.spot)) {
                    reads(text, 3);
                }
            }
            start += old.sign.length() + blanks.length();
        }
    }

    private static boolean canStand(Spot spot, String sign, int n) {
        switch (spot) {
            case FIRST: return sign.equals("places");
            case COUNT: return sign.matches("[2-5]");
            case MARK: return sign.equals(";");
            case WORD:
            case DOG: return sign.matches("shut|goal|barks|breath|dog");
            case PLACE: return sign.matches("[0-" + (n - 1) + "]");
            case WHISTLE: return sign.matches("[01]");
            case BREATH: return sign.matches("[1-9]");
            case ROWS_KIND:
            case LEARNING_KIND: return sign.matches("[0-4]");
            case ROW: return sign.matches("[a-" + (char) ('a' + n - 1) + "]{" + n + "}");
            default: return sign.matches("[1-3]");
        }
    }

    /** Another number of places, word or kind asks for other tokens behind it. */
    private static boolean leavesTheRest(Spot spot) {
        return spot != Spot.COUNT && spot != Spot.WORD && spot != Spot.DOG && spot != Spot.ROWS_KIND
            && spot != Spot.LEARNING_KIND;
    }

    private static void blanksWhereTokensPart() {
        reads("places2;shut1;goal1;barks1;breath0 9;breath1 9;dog0ab ba;dog3ab ba ab ba1;", 2);
        reads(" places 2 ; ", 0);
        reads("places          2          ;          dog          4          ab          ba          ;          ", 1);
        // Without the blank two rows are one word, and two figures are no number.
        fault("places 2;dog 0 abba;", 15);
        fault("places 2;breath 09;", 16);
        fault("places 2;dog0ab;", 15);
        fault("places2", 7);
    }

    // ---- bytes

    private static boolean isLetter(char sign) {
        return sign >= 'a' && sign <= 'z';
    }

    private static boolean isFigure(char sign) {
        return sign >= '0' && sign <= '9';
    }

    /** Each byte where a token begins, within words, rows and numbers, and behind them. */
    private static void eachByte() {
        for (char sign = 0; sign <= 255; sign++) {
            boolean blank = sign == ' ';
            either(sign + "places 2;", blank, 0, 0);
            either("places 2;" + sign, blank, 0, 9);
            either("places" + sign + "2;", blank, 0, isLetter(sign) ? 0 : 6);
            int behindNumber = isFigure(sign) ? 7 : sign == ';' ? 9 : 8;
            either("places 2" + sign + ";", blank, 0, behindNumber);
            either("places 2" + sign, sign == ';', 0, isFigure(sign) ? 7 : blank ? 9 : 8);
            either("places " + sign + ";", sign >= '2' && sign <= '5', 0, blank ? 8 : 7);
            either("places 2;g" + sign + "al 0;", sign == 'o', 0, 9);
            either("places 2;dog 0 a" + sign + " ab;", sign == 'a' || sign == 'b', 1, 15);
            int behindRow = isLetter(sign) ? 18 : sign == ';' ? 21 : 20;
            either("places 2;dog 0 ab ab" + sign + ";", blank, 1, behindRow);
            either("places 2;dog 0 ab" + sign + "ab;", blank, 1, isLetter(sign) ? 15 : 17);
            either("places 2;dog " + sign + " ab ba;", sign == '0' || sign == '1' || sign == '4', 1,
                sign == '2' || sign == '3' ? 20 : blank ? 15 : 13);
        }
    }

    private static void either(String text, boolean good, int dogs, int at) {
        if (good) {
            reads(text, dogs);
        } else {
            fault(text, at);
        }
    }

    // ---- items

    /** Each word with one letter changed, left out or put in is none. */
    private static void wordsThatAreNone() {
        String[] items = {"shut 1;", "goal 1;", "barks 1;", "breath 0 1;", "dog 0 ab ab;"};
        oneLetterOff("", "places", " 2;");
        for (String item : items) {
            int end = item.indexOf(' ');
            oneLetterOff("places 2;", item.substring(0, end), item.substring(end));
        }
    }

    private static void oneLetterOff(String ahead, String word, String behind) {
        for (int i = 0; i <= word.length(); i++) {
            String front = ahead + word.substring(0, i);
            String rest = word.substring(i);
            fault(front + "z" + rest + behind, ahead.length());
            if (!rest.isEmpty()) {
                fault(front + rest.substring(1) + behind, ahead.length());
                fault(front + "z" + rest.substring(1) + behind, ahead.length());
            }
        }
    }

    private static void placesFirstAndOnce() {
        for (String ahead : new String[] {"shut 0;", "goal 0;", "barks 0;", "breath 0 1;", "dog 0 ab ab;", ";", "2;"}) {
            fault(ahead, 0);
            fault(ahead + "places 2;", 0);
            fault("  " + ahead + "places 2;", 2);
        }
        fault("places 2;places 2;", 9);
        fault("places 2;goal 1;places 2;", 16);
        fault("places 2;places", 9);
        fault("places 2;dog 0 ab ab;places 3;", 21);
    }

    private static void dogsByNumber() {
        String text = "places 2;";
        String[] dogs = {"dog 0 ab ab;", "dog 2 ab ab ab ab 1;", "dog 4 ab ab;"};
        for (int i = 0; i < 3; i++) {
            reads(text, i);
            text += dogs[i];
        }
        reads(text, 3);
        reads(text + "goal 1;", 3);
        for (String fourth : new String[] {"dog 0 ab ab;", "dog 3 ab ab ab ab 2;", "dog", "dog;", "dog 9", "dog " + (char) 200}) {
            fault(text + fourth, 53);
            fault(text + "goal 1; " + fourth, 61);
        }
        fault(text + "dogs", 53);
        fault(text + "do", 53);
    }

    private static String padded(String front, int length, String back) {
        StringBuilder text = new StringBuilder(front);
        while (text.length() + back.length() < length) {
            text.append(' ');
        }
        return text + back;
    }

    /** The last byte of the longest text counts, and its length is the last fault that there is. */
    private static void lengthsOfTexts() {
        reads(padded("places 2", 200, ";"), 0);
        reads(padded("places 2;", 200, ""), 0);
        reads(padded("", 200, "places 5;dog 1 abcde edcba;"), 1);
        fault(padded("", 200, ""), 200);
        fault(padded("places 2", 200, ""), 200);
        fault(padded("places 2;dog 0 ab", 200, "ab"), 200);
        fault(padded("places 2;", 200, ";"), 199);
        fault(padded("places 2;", 200, "do"), 198);
        fault(padded("places 2;", 200, "\u00ff"), 199);
        fault(padded("places 2;goal", 200, "2"), 199);
        fault(padded("places 2;goal", 200, "11"), 198);
        // As many items as there can be.
        String most = "places2;";
        while (most.length() + 6 <= 200) {
            most += "goal1;";
        }
        due("its length", most.length(), 200);
        OneWhistle x = new OneWhistle();
        due("read of the most items", read(x, most), 0);
        due("the goal of the last one", x.put(0, 0), 1);
        fault(most.substring(0, 194) + "goal2;", 198);
    }

    /** Places that are shut or barked at add up; of goals and breaths the last counts. */
    private static void itemsAgain() {
        OneWhistle x = new OneWhistle();
        String text = "places 5;shut 4;shut 0;shut 4;barks 1;barks 3;barks 1;goal 4;goal 2;breath 1 9;breath 1 2;breath 0 3;";
        due("read()", read(x, text), 0);
        due("digest()", x.digest(), digestOf(5, 0, 2, text.length(), 17, 2, 10, 3, 2, 0, 1));
    }

    private static void learningRowsInTheirOrder() {
        for (int m = 1; m <= 3; m++) {
            OneWhistle x = new OneWhistle();
            due("read()", read(x, "places 5;dog 2 bbbbb ccccc ddddd eeeee " + m + ";dog 3 bbbbb ccccc ddddd eeeee " + m + ";"), 2);
            for (int dog = 0; dog <= 1; dog++) {
                due("row 0", x.goes(dog, 0, 0, m - 1), 1);
                due("row 1", x.goes(dog, 0, 1, m - 1), 2);
                due("then 0", x.goes(dog, 0, 0, m), 3);
                due("then 1", x.goes(dog, 0, 1, m), 4);
            }
        }
    }

    // ---- what there was

    private static OneWhistle full() {
        OneWhistle x = new OneWhistle();
        x.places(4);
        x.dog(0, row("bcda"), row("aacc"));
        x.pup(3, row("bcda"), row("aacc"), row("dddd"), row("abcd"), 2);
        x.dog(4, row("bcda"), row("aacc"));
        x.shut(1, true);
        x.shut(3, true);
        x.put(0, 3);
        x.put(1, 15);
        x.put(2, 8);
        x.put(3, 9);
        x.drawn(0, 2, 3);
        x.shut(1, true);
        x.places(9);
        x.dog(0, 0, 0);
        return x;
    }

    /** What is not told is as at first; THE TEXT, THE FRACTION and STATUS are no part of a hill. */
    private static void takesThePlaceOfAll() {
        OneWhistle x = full();
        long above = x.part(0);
        long below = x.part(1);
        due("read of places alone", read(x, "places 2;"), 0);
        due("digest()", x.digest(), digestOf(2, 0, 0, 9, 0, 0, 0, 1, 1, above, below));
        status(x, 1, 1, 1);
        String[] items = {"shut 2;", "goal 2;", "barks 2;", "breath 0 7;", "breath 1 7;"};
        long[][] told = {{4, 0, 0, 1, 1}, {0, 2, 0, 1, 1}, {0, 0, 4, 1, 1}, {0, 0, 0, 7, 1}, {0, 0, 0, 1, 7}};
        for (int i = 0; i < items.length; i++) {
            OneWhistle y = full();
            String text = "places 3;" + items[i];
            due("read of " + text, read(y, text), 0);
            due("digest() behind " + text, y.digest(), digestOf(3, 0, i == 0 ? 1 : 0, text.length(), told[i][0], told[i][1],
                told[i][2], told[i][3], told[i][4], above, below));
        }
        OneWhistle z = full();
        due("read of a dog", read(z, "places 2;dog 1 ba ab;"), 1);
        due("digest()", z.digest(), digestOf(2, 1, 0, 21, 1, row("ba"), row("ab"), 0, 0, 0, 0, 0, 0, 1, 1, above, below));
        due("a place that there is no more", z.goes(0, 2, 0, 0), OneWhistle.BAD);
        due("a dog that there is no more", z.goes(1, 0, 0, 0), OneWhistle.BAD);
    }

    private static void imagesStay() {
        OneWhistle x = full();
        x.image(1);
        x.clear();
        long kept = x.digest();
        due("read()", read(x, "places 2;dog 1 ba ab;"), 1);
        due("from(0)", x.from(0), OneWhistle.NO);
        due("from(1)", x.from(1), 1);
        x.clear();
        due("digest()", x.digest(), kept);
    }

    /** The same text, typed by 1 to 8 bytes, each time with bytes above them that do not count. */
    private static void typedInParts() {
        promise = 7;
        String text = "places 3;shut 1;goal 2;dog 4 cba aab;dog 2 abc bca cab ccc 3;";
        for (int size = 1; size <= 8; size++) {
            OneWhistle x = new OneWhistle();
            for (int i = 0; i < text.length(); i += size) {
                int end = Math.min(text.length(), i + size);
                long v = -1;
                for (int k = i; k < end; k++) {
                    v = v << 8 | text.charAt(k);
                }
                due("type", x.type(v, end - i), end);
            }
            due("read of what was typed by " + size, x.read(), 2);
            due("digest()", x.digest(), digestOf(3, 2, 1, text.length(), 4, row("cba"), row("aab"), 0, 0, 0, 2, row("abc"),
                row("bca"), row("cab"), row("ccc"), 3, 2, 2, 0, 1, 1, 0, 1));
        }
    }
}
