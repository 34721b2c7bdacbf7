/** What the tests of boundary cases share: an answer beside the one that is due, maps and rows told whole. */
final class Check {
    static final int MIN = Integer.MIN_VALUE;
    static final int MAX = Integer.MAX_VALUE;
    static final long LONG_REFUSED = 4000000000000000000L;
    private static int wrong = 0;
    private static String sentence = "";

    private Check() {
    }

    /** The document's words that the answers from here on are due by. */
    static void says(String words) {
        sentence = words;
    }

    static void due(String what, long got, long want) {
        if (got != want) {
            wrong++;
            System.out.println("\"" + sentence + "\": " + what + " answered " + got + ", due is " + want);
        }
    }

    /** A new object to which the map came without fault. */
    static PostmanRounds told(String text) {
        PostmanRounds x = new PostmanRounds();
        int statements = tell(x, text);
        due("the map " + text, statements, text.chars().filter(c -> c == ';').count());
        return x;
    }

    static void letters(PostmanRounds x, String text) {
        for (int i = 0; i < text.length(); i++) {
            x.letter(text.charAt(i));
        }
    }

    static int tell(PostmanRounds x, String text) {
        letters(x, text);
        return x.map();
    }

    static void row(PostmanRounds x, int... numbers) {
        for (int number : numbers) {
            x.row(number);
        }
    }

    /** Refusals -1, -2, -3, -4, -6 as they should have been counted; there are never any -5. */
    static void refused(PostmanRounds x, int nobody, int other, int state, int below, int room) {
        int[] wanted = {nobody, other, state, below, 0, room};
        for (int i = 0; i < wanted.length; i++) {
            due("count(" + (11 + i) + ")", x.count(11 + i), wanted[i]);
        }
    }

    static void noneRefused(PostmanRounds x) {
        refused(x, 0, 0, 0, 0, 0);
    }

    static void street(PostmanRounds x, int street, int... wanted) {
        for (int what = 0; what < wanted.length; what++) {
            due("street(" + street + ", " + what + ")", x.street(street, what), wanted[what]);
        }
    }

    /** The streets of the round's steps, in their order. */
    static void walked(PostmanRounds x, int... streets) {
        due("steps", x.round(1), streets.length);
        for (int i = 0; i < streets.length; i++) {
            due("step(" + i + ", 0)", x.step(i, 0), streets[i]);
        }
    }

    static void splicedAs(PostmanRounds x, int... corners) {
        due("spliced(-1)", x.spliced(-1), corners.length);
        for (int i = 0; i < corners.length; i++) {
            due("spliced(" + i + ")", x.spliced(i), corners[i]);
        }
        due("spliced behind all", x.spliced(corners.length), -9);
    }

    static void end(String good) {
        System.out.println(wrong == 0 ? good : wrong + " answers are wrong");
        if (wrong != 0) {
            System.exit(1);
        }
    }
}
