import java.util.NoSuchElementException;

/** What the tests share: telling a moor its text, and counting the answers that are not the ones due. */
abstract class Dues {
    /** a - b - c - d in a row, e alone. */
    static final String ROW = "part a 10;part b 20 beside a;part c 30 beside b;part d 40 beside c;part e 50;";

    private static final int MOST_PRINTED = 40;
    private static int wrong;
    private static int answers;
    private static String sentence = "";

    /** What of the document is asked for from here on. */
    static void of(String words) {
        sentence = words;
    }

    static void due(String call, long got, long want) {
        answers++;
        if (got != want) {
            wrong++;
            if (wrong <= MOST_PRINTED) {
                System.out.println(sentence + ": " + call + " answered " + got + ", due is " + want);
            }
        }
    }

    static void due(String call, boolean got, boolean want) {
        due(call, got ? 1 : 0, want ? 1 : 0);
    }

    static boolean isTooWrong() {
        return wrong >= MOST_PRINTED;
    }

    /** To be called last: ends with exit code 1, if an answer was not the one due. */
    static void end() {
        System.out.println(answers + " answers, " + wrong + " not as due");
        if (wrong != 0) {
            System.exit(1);
        }
    }

    /** Twenty bytes of a text from one place on as five numbers; blanks behind its end. */
    static int[] fiveOf(String text, int from) {
        int[] five = new int[5];
        for (int j = 0; j < 20; j++) {
            char sign = from + j < text.length() ? text.charAt(from + j) : ' ';
            five[j / 4] = five[j / 4] << 8 | sign;
        }
        return five;
    }

    static int feed(MoorGuides x, String text) {
        int size = 0;
        for (int i = 0; i < text.length(); i += 20) {
            int[] five = fiveOf(text, i);
            size = x.feed(five[0], five[1], five[2], five[3], five[4]);
        }
        return size;
    }

    static int tell(MoorGuides x, String text) {
        feed(x, text);
        return x.text(text.length());
    }

    static MoorGuides told(String text) {
        MoorGuides x = new MoorGuides();
        int lines = tell(x, text);
        if (lines < 0) {
            due("fault of " + text + " at " + x.fault(1), x.fault(0), 0);
        }
        return x;
    }

    static void faulty(String text, int kind, int place) {
        MoorGuides x = new MoorGuides();
        due("text " + text, tell(x, text), -1);
        due("fault(0) of " + text, x.fault(0), kind);
        due("fault(1) of " + text, x.fault(1), place);
    }

    /** A text whose fault stands at its last word that begins as told. */
    static void faultyAt(String text, int kind, String word) {
        faulty(text, kind, text.lastIndexOf(word));
    }

    static void fine(String text, int lines) {
        MoorGuides x = new MoorGuides();
        due("text " + text, tell(x, text), lines);
        due("fault(0) of " + text, x.fault(0), 0);
        due("fault(1) of " + text, x.fault(1), -1);
    }

    static int letters(String name) {
        int code = 0;
        for (int i = 0; i < 6; i++) {
            code = code << 5 | (i < name.length() ? name.charAt(i) - 'a' + 1 : 0);
        }
        return code;
    }

    static String many(String text, int times) {
        return text.repeat(times);
    }

    /** Parts from a on, each by itself. */
    static String parts(int count) {
        StringBuilder s = new StringBuilder();
        for (int i = 0; i < count; i++) {
            s.append("part ").append((char) ('a' + i)).append(" 50;");
        }
        return s.toString();
    }

    /** Parts a to h, each beside the one ahead. */
    static String longRow() {
        StringBuilder row = new StringBuilder("part a 1;");
        for (char c = 'b'; c <= 'h'; c++) {
            row.append("part ").append(c).append(" 1 beside ").append((char) (c - 1)).append(';');
        }
        return row.toString();
    }

    /** What look() throws: 1 that there is no such person, 2 no such what, 0 nothing. */
    static int thrown(MoorGuides x, int person, int what) {
        try {
            x.look(person, what);
            return 0;
        } catch (IndexOutOfBoundsException e) {
            return 1;
        } catch (NoSuchElementException e) {
            return 2;
        }
    }

    /** ORDER of person 0: its parts as letters, and the product as it stands above and below. */
    static void orderIs(MoorGuides x, int parts, String order, long above, long below) {
        due("above of " + parts, x.order(0, parts, 0), above);
        due("below of " + parts, x.order(0, parts, 1), below);
        for (int k = 0; k < order.length(); k++) {
            due("part " + k + " of " + parts, x.ordered(0, parts, k), order.charAt(k) - 'a');
        }
        due("no so many of " + parts, x.ordered(0, parts, order.length()), -2);
    }

    /** The last number's follower, as the document tells it. */
    static long after(long last) {
        return last * 1103515245L + 12345L & 0x7fffffffL;
    }

    /** What is below the chance of one who comes out. */
    static int drawn(long number) {
        return (int) (number / 65536 % 100);
    }

    static void goBy(MoorGuides x, int nights) {
        for (int left = nights; left > 0; left -= 200) {
            x.nights(Math.min(left, 200));
        }
    }
}
