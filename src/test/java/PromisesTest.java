/** Each promise of the document by itself: ordinary inputs, edges, wrong inputs and how count tells these. */
public final class PromisesTest {
    private static final long REFUSED = 4000000000000000000L;
    private static int wrong = 0;
    private static int promise = 0;

    private static void due(String what, long got, long want) {
        if (got != want) {
            wrong++;
            System.out.println("promise " + promise + ": " + what + " answered " + got + ", due is " + want);
        }
    }

    public static void main(String[] args) {
        newObject();
        letter();
        map();
        mapFaults();
        streets();
        turns();
        length();
        kind();
        home();
        street();
        corner();
        distance();
        next();
        round();
        roundOfSeveral();
        step();
        time();
        rank();
        mean();
        odd();
        matched();
        matching();
        spliced();
        balance();
        flow();
        loose();
        without();
        turned();
        worst();
        shared();
        dealt();
        lost();
        whatIs();
        row();
        judge();
        clear();
        lots();
        image();
        on();
        count();
        System.out.println(wrong == 0 ? "every promise is kept" : wrong + " answers are wrong");
        if (wrong != 0) {
            System.exit(1);
        }
    }

    /** A map told whole, "sab05;hb;": it must come without fault. */
    private static PostmanRounds told(String text) {
        PostmanRounds x = new PostmanRounds();
        if (tell(x, text) < 0) {
            wrong++;
            System.out.println("promise " + promise + ": the map " + text + " did not come");
        }
        return x;
    }

    private static int tell(PostmanRounds x, String text) {
        for (int i = 0; i < text.length(); i++) {
            x.letter(text.charAt(i));
        }
        return x.map();
    }

    private static void tellRow(PostmanRounds x, int... numbers) {
        for (int number : numbers) {
            x.row(number);
        }
    }

    /** Refusals -1, -2, -3, -4, -6, as they should have been counted. */
    private static void refused(PostmanRounds x, int nobody, int other, int state, int below, int room) {
        due("count(11)", x.count(11), nobody);
        due("count(12)", x.count(12), other);
        due("count(13)", x.count(13), state);
        due("count(14)", x.count(14), below);
        due("count(15)", x.count(15), 0);
        due("count(16)", x.count(16), room);
    }

    private static void newObject() {
        promise = 1;
        PostmanRounds x = new PostmanRounds();
        for (int what = 0; what <= 6; what++) {
            due("count of what " + what, x.count(what), 0);
        }
        refused(x, 0, 0, 0, 0, 0);
        due("street(0, 0)", x.street(0, 0), -1);
        due("round(0)", x.round(0), 0);
        due("round(1)", x.round(1), 0);
        due("on", x.on(), -3);
    }

    private static void letter() {
        promise = 2;
        PostmanRounds x = new PostmanRounds();
        due("letter(0)", x.letter(0), 1);
        due("letter(255)", x.letter(255), 2);
        due("letter(-1)", x.letter(-1), -4);
        due("letter(256)", x.letter(256), -6);
        due("letter(MIN)", x.letter(Integer.MIN_VALUE), -4);
        due("letter(MAX)", x.letter(Integer.MAX_VALUE), -6);
        for (int i = 3; i <= 96; i++) {
            due("letter " + i, x.letter('s'), i);
        }
        due("a 97th letter", x.letter('s'), -6);
        due("a 97th letter that is below", x.letter(-1), -4);
        due("letters", x.count(6), 96);
        refused(x, 0, 0, 0, 3, 3);
    }

    private static void map() {
        promise = 3;
        PostmanRounds x = new PostmanRounds();
        due("a map", tell(x, "sab05;sbf99;k049;l107;x0;hf;"), 6);
        due("letters", x.count(6), 0);
        due("streets", x.count(0), 2);
        due("home", x.count(4), 5);
        int[][] wanted = {{0, 1, 5, 4, 9, 0}, {1, 5, 7, 0, 0, 1}};
        for (int street = 0; street < 2; street++) {
            for (int what = 0; what < 6; what++) {
                due("street " + street + " what " + what, x.street(street, what), wanted[street][what]);
            }
        }
        due("x again", tell(x, "x0;"), 1);
        due("OPEN again", x.street(0, 5), 1);
        due("x twice", tell(x, "x1;x1;"), 2);
        due("OPEN as it was", x.street(1, 5), 1);
        due("96 letters", tell(x, "x0;".repeat(32)), 32);
        due("97 letters come as 96", tell(x, "x0;".repeat(32) + "y"), 32);
        due("a street that an earlier statement made", tell(x, "scd01;l202;"), 2);
        due("streets", x.count(0), 3);
        due("its length", x.street(2, 2), 2);
        refused(x, 0, 0, 0, 0, 1);
    }

    private static void mapFaults() {
        PostmanRounds x = told("sab05;hc;");
        String[] form = {"", "y", "s", "sa", "saB05;", "sabx", "sab0", "sab05", "sab05x", "sab05;;", "k0", "k012", "k0a2;",
            "l01", "x", "xa;", "h", "h1;", "hA;", "h{;", "h`;", "x/;", "x:;", "hc;s", "S", "sg", "x9;y"};
        int[] places = {0, 0, 1, 2, 2, 3, 4, 5, 5, 6, 2, 4, 2, 3, 1, 1, 1, 1, 1, 1, 1, 1, 1, 4, 0, 2, 3};
        for (int i = 0; i < form.length; i++) {
            due("the map " + form[i], tell(x, form[i]), -1000 - places[i]);
        }
        String[] sense = {"sgb05;", "sag05;", "szz05;", "saa05;", "sab00;", "k100;", "k060;", "l105;", "l000;", "x1;", "hg;",
            "hz;", "sbc05;ha;x2;", "x0;x9;ha;", "sab01;sab01;sab01;sab01;sab01;sab01;sab01;sab01;"};
        int[] firsts = {0, 0, 0, 0, 0, 0, 0, 0, 0, 0, 0, 0, 9, 3, 42};
        for (int i = 0; i < sense.length; i++) {
            due("the map " + sense[i], tell(x, sense[i]), -2000 - firsts[i]);
        }
        due("kind 1 is told ahead of kind 2", tell(x, "saa05;y"), -1006);
        due("a letter above 127", tell(x, "h\u00e9;"), -1001);
        due("nothing came", x.count(0), 1);
        due("home stays", x.count(4), 2);
        due("OPEN stays", x.count(1), 1);
        due("letters are no more", x.count(6), 0);
        refused(x, 0, 0, 0, 0, 0);
    }

    private static void streets() {
        promise = 4;
        PostmanRounds x = new PostmanRounds();
        due("streets(5, 0, 99)", x.streets(5, 0, 99), 0);
        due("streets(0, 5, 1)", x.streets(0, 5, 1), 1);
        due("first", x.street(0, 0), 5);
        due("second", x.street(0, 1), 0);
        due("length", x.street(0, 2), 99);
        due("kind", x.street(0, 3), 0);
        due("figure", x.street(0, 4), 0);
        due("open", x.street(0, 5), 1);
        due("from 6", x.streets(6, 6, 0), -1);
        due("to 6", x.streets(0, 6, 0), -1);
        due("from -1", x.streets(-1, 0, 0), -1);
        due("to -1", x.streets(0, -1, 0), -1);
        due("they are one", x.streets(3, 3, 0), -3);
        due("length 0", x.streets(3, 2, 0), -4);
        due("length 100", x.streets(3, 2, 100), -6);
        for (int i = 2; i < 8; i++) {
            due("street " + i, x.streets(1, 2, 50), i);
        }
        due("a ninth", x.streets(1, 2, 50), -6);
        due("a ninth of length 0", x.streets(1, 2, 0), -4);
        due("streets", x.count(0), 8);
        refused(x, 4, 0, 1, 2, 2);
        x.image();
        PostmanRounds y = new PostmanRounds();
        y.image();
        y.streets(0, 1, 5);
        y.kind(0, 4, 7);
        y.turns(0);
        y.on();
        y.streets(2, 3, 6);
        due("a street in the place of one that was closed is OPEN", y.street(0, 5), 1);
        due("and BOTH", y.street(0, 3), 0);
        due("with figure 0", y.street(0, 4), 0);
    }

    private static void turns() {
        promise = 5;
        PostmanRounds x = told("sab05;sbc06;");
        due("closed", x.turns(1), 0);
        due("open bits", x.count(1), 1);
        due("not due", x.count(2), 1);
        due("open", x.turns(1), 1);
        due("open bits", x.count(1), 3);
        due("turns(2)", x.turns(2), -1);
        due("turns(-1)", x.turns(-1), -1);
        due("turns(8)", x.turns(8), -1);
        due("turns(MAX)", x.turns(Integer.MAX_VALUE), -1);
        refused(x, 4, 0, 0, 0, 0);
    }

    private static void length() {
        promise = 6;
        PostmanRounds x = told("sab05;");
        due("length(0, 99)", x.length(0, 99), 5);
        due("length(0, 1)", x.length(0, 1), 99);
        due("length(0, 0)", x.length(0, 0), -4);
        due("length(0, 100)", x.length(0, 100), -6);
        due("length(1, 0)", x.length(1, 0), -1);
        due("length(-1, 100)", x.length(-1, 100), -1);
        due("it stays", x.street(0, 2), 1);
        due("the round knows", x.round(0), 2);
        refused(x, 2, 0, 0, 1, 1);
    }

    private static void kind() {
        promise = 7;
        PostmanRounds x = told("sab05;");
        due("kind(0, 3, 9)", x.kind(0, 3, 9), 0);
        due("kind(0, 5, 0)", x.kind(0, 5, 0), 39);
        due("kind(0, 0, 4)", x.kind(0, 0, 4), 50);
        due("kind(0, 6, -1)", x.kind(0, 6, -1), -2);
        due("kind(0, -1, 10)", x.kind(0, -1, 10), -2);
        due("kind(0, 1, -1)", x.kind(0, 1, -1), -4);
        due("kind(0, 1, 10)", x.kind(0, 1, 10), -6);
        due("kind(1, 6, -1)", x.kind(1, 6, -1), -1);
        due("kind(-1, 0, 0)", x.kind(-1, 0, 0), -1);
        due("kind(0, 0, 0)", x.kind(0, 0, 0), 4);
        refused(x, 2, 2, 0, 1, 1);
    }

    private static void home() {
        promise = 8;
        PostmanRounds x = told("sab05;");
        due("home(1)", x.home(1), 0);
        due("home(5)", x.home(5), 1);
        due("no round from f", x.round(0), -9);
        due("home(0)", x.home(0), 5);
        due("home(6)", x.home(6), -1);
        due("home(-1)", x.home(-1), -1);
        due("home stays", x.count(4), 0);
        refused(x, 2, 0, 0, 0, 0);
    }

    private static void street() {
        promise = 9;
        PostmanRounds x = told("sab10;sab10;sab10;sab10;sab10;sab10;k003;k113;k223;k333;k443;k553;");
        int[] on = {10, 10, 10, 13, 20, 10};
        int[] back = {10, -9, 13, -9, 26, 10};
        for (int kind = 0; kind < 6; kind++) {
            due("kind " + kind + " itself", x.street(kind, 3), kind);
            due("figure of kind " + kind, x.street(kind, 4), 3);
            due("kind " + kind + " ON", x.street(kind, 6), on[kind]);
            due("kind " + kind + " BACK", x.street(kind, 7), back[kind]);
        }
        x.turns(4);
        due("closed", x.street(4, 5), 0);
        due("closed ON", x.street(4, 6), -9);
        due("closed BACK", x.street(4, 7), -9);
        due("street(6, 8)", x.street(6, 8), -1);
        due("street(-1, 0)", x.street(-1, 0), -1);
        due("street(0, 8)", x.street(0, 8), -2);
        due("street(0, -1)", x.street(0, -1), -2);
        refused(x, 2, 2, 0, 0, 0);
    }

    private static void corner() {
        promise = 10;
        PostmanRounds x = told("sab05;sac05;sad05;sde05;k210;k350;x1;");
        due("degree of a", x.corner(0, 0), 2);
        due("streets at a, closed ones too", x.corner(0, 1), 7);
        due("corners from a", x.corner(0, 2), 0b011011);
        due("degree of d, without the park", x.corner(3, 0), 1);
        due("streets at d", x.corner(3, 1), 12);
        due("corners from d: no way back by a ONEWAY", x.corner(3, 2), 0b011000);
        due("degree of c", x.corner(2, 0), 0);
        due("corners from c", x.corner(2, 2), 4);
        due("corner(6, 9)", x.corner(6, 9), -1);
        due("corner(-1, 0)", x.corner(-1, 0), -1);
        due("corner(0, 3)", x.corner(0, 3), -2);
        due("corner(0, -1)", x.corner(0, -1), -2);
        refused(x, 2, 2, 0, 0, 0);
    }

    private static void distance() {
        promise = 11;
        PostmanRounds x = told("sab05;sbc06;sac12;k105;k123;k250;");
        due("a to c by two", x.distance(0, 2), 11);
        due("c to a: the park is nearer than the steep street back", x.distance(2, 0), 12);
        due("c to b", x.distance(2, 1), 9);
        due("to itself", x.distance(4, 4), 0);
        due("none", x.distance(0, 5), -9);
        x.turns(0);
        due("a to b, round the closed street", x.distance(0, 1), 21);
        x.kind(2, 1, 0);
        due("no way against a ONEWAY", x.distance(2, 0), -9);
        due("distance(6, 0)", x.distance(6, 0), -1);
        due("distance(0, 6)", x.distance(0, 6), -1);
        due("distance(-1, -1)", x.distance(-1, -1), -1);
        refused(x, 3, 0, 0, 0, 0);
    }

    private static void next() {
        promise = 12;
        PostmanRounds x = told("sac09;sba04;sbc05;sac09;sdc01;");
        due("a to c: the least street of several least ways", x.next(0, 2), 0);
        due("c to a BACK", x.next(2, 0), 1);
        due("a to b BACK", x.next(0, 1), 3);
        due("b to a ON", x.next(1, 0), 2);
        due("b to d", x.next(1, 3), 4);
        due("they are one", x.next(2, 2), -9);
        due("none", x.next(2, 5), -9);
        x.length(0, 10);
        due("a to c: the longer is no more", x.next(0, 2), 3);
        due("next(6, 0)", x.next(6, 0), -1);
        due("next(0, 6)", x.next(0, 6), -1);
        due("next(-1, 6)", x.next(-1, 6), -1);
        refused(x, 3, 0, 0, 0, 0);
    }

    private static void round() {
        promise = 13;
        PostmanRounds x = told("sab05;sbc07;");
        due("there and back", x.round(0), 24);
        due("steps", x.round(1), 4);
        due("again", x.round(2), 2);
        due("cost again", x.round(3), 12);
        tell(x, "sca03;");
        due("once about", x.round(0), 15);
        due("none again", x.round(2), 0);
        due("cost of none", x.round(3), 0);
        tell(x, "sdb01;sdb01;k450;");
        due("with a way to d by the park", x.round(0), 17);
        due("the park is always again", x.round(2), 1);
        due("and costs", x.round(3), 1);
        due("round(4)", x.round(4), -2);
        due("round(-1)", x.round(-1), -2);
        x.home(5);
        due("none from f", x.round(0), -9);
        due("none from f", x.round(3), -9);
        due("what goes ahead of none", x.round(4), -2);
        refused(x, 0, 3, 0, 0, 0);
        PostmanRounds y = told("sab05;k050;");
        due("a park need not be walked", y.round(0), 0);
        due("no steps", y.round(1), 0);
        PostmanRounds z = told("sab05;k010;");
        due("no way home", z.round(0), -9);
    }

    private static void roundOfSeveral() {
        PostmanRounds x = told("sbc04;sab04;sca04;");
        due("first of two ways about", x.step(0, 0), 1);
        due("then", x.step(1, 0), 0);
        due("then", x.step(2, 0), 2);
        PostmanRounds y = told("sab04;sab04;sac04;sac04;");
        for (int i = 0; i < 4; i++) {
            due("step " + i + " by the least street", y.step(i, 0), i);
        }
        PostmanRounds z = told("sab02;sbc02;sbc02;sab02;sac04;");
        // 12 once each; a and c are odd, so 4 more: by 0 and 1 again, as these come earlier than 4 again.
        int[] streets = {0, 0, 3, 1, 1, 2, 4};
        due("cost with a way again", z.round(0), 16);
        due("steps", z.round(1), streets.length);
        for (int i = 0; i < streets.length; i++) {
            due("step " + i, z.step(i, 0), streets[i]);
        }
    }

    private static void step() {
        promise = 14;
        PostmanRounds x = told("sab05;sbc07;k024;k150;scb01;k250;sbc06;");
        // a to b ON 5, b to c by the park 1 (BACK), c to b by 3 BACK, b to a BACK 9.
        int[][] steps = {{0, 0, 1, 0, 5}, {2, 1, 2, 1, 1}, {3, 1, 1, 0, 6}, {0, 1, 0, 1, 9}};
        for (int i = 0; i < steps.length; i++) {
            for (int what = 0; what < 5; what++) {
                due("step " + i + " what " + what, x.step(i, what), steps[i][what]);
            }
        }
        due("steps", x.round(1), 4);
        due("step(4, 9)", x.step(4, 9), -1);
        due("step(-1, 0)", x.step(-1, 0), -1);
        due("step(0, 5)", x.step(0, 5), -2);
        due("step(0, -1)", x.step(0, -1), -2);
        due("step(MAX, 0)", x.step(Integer.MAX_VALUE, 0), -1);
        x.home(5);
        due("there is no round", x.step(0, 0), -1);
        due("there is no round", x.step(0, 7), -1);
        refused(x, 5, 2, 0, 0, 0);
    }

    private static void time() {
        promise = 15;
        PostmanRounds x = told("sab05;sbc07;sca09;");
        int[][] paces = {{1, 1}, {3, 7}, {-3, 7}, {3, -7}, {1, 2147483647}, {2147483647, 1}, {Integer.MIN_VALUE, 1},
            {1, Integer.MIN_VALUE}, {16777217, 3}, {1, 3}, {10, 3}, {0, 5}, {0, -5}, {5, 0}, {-5, 0}, {0, 0}};
        for (int[] pace : paces) {
            float by = (float) pace[0] / (float) pace[1];
            float time = 0.0f + 5.0f / by;
            time = time + 7.0f / by;
            time = time + 9.0f / by;
            due("time by " + pace[0] + " by " + pace[1], x.time(pace[0], pace[1]), Float.floatToIntBits(time));
        }
        due("1 by 1", x.time(1, 1), 0x41a80000);
        x.home(5);
        due("no round", x.time(1, 1), 0xbf800000);
        due("no round, no pace", x.time(0, 0), 0xbf800000);
        PostmanRounds y = new PostmanRounds();
        due("no steps", y.time(1, 1), 0);
        due("no steps, no pace", y.time(0, 0), 0);
        due("no steps, pace 0", y.time(0, -1), 0);
        refused(y, 0, 0, 0, 0, 0);
    }

    private static void rank() {
        promise = 16;
        PostmanRounds x = told("sab05;");
        int[][] paces = {{0, 0}, {0, 1}, {1, 5}, {1, 2}, {1, 1}, {7, 0}, {-1, 1}, {-1, 2}, {0, -1}};
        // From the longest time to the shortest: no number, endless, 50, 20, 10, 0, -10, -20, endless below 0.
        for (int i = 0; i < paces.length; i++) {
            for (int j = 0; j < paces.length; j++) {
                due("rank of " + i + " to " + j, x.rank(paces[i][0], paces[i][1], paces[j][0], paces[j][1]),
                        Integer.compare(j, i));
            }
        }
        due("alike paces", x.rank(1, 2, 2, 4), 0);
        x.home(5);
        due("no round", x.rank(1, 1, 1, 1), -100003);
        refused(x, 0, 0, 1, 0, 0);
    }

    private static void mean() {
        promise = 17;
        PostmanRounds x = new PostmanRounds();
        due("no streets", x.mean(), 0);
        x.streets(0, 1, 1);
        due("1", x.mean(), Double.doubleToLongBits(1.0));
        x.streets(0, 1, 99);
        x.streets(0, 1, 97);
        due("a third", x.mean(), Double.doubleToLongBits(197.0 / 3));
        x.kind(1, 5, 0);
        due("parks too", x.mean(), Double.doubleToLongBits(197.0 / 3));
        x.turns(1);
        due("closed ones not", x.mean(), Double.doubleToLongBits(49.0));
        x.turns(0);
        x.turns(2);
        due("none is OPEN", x.mean(), 0);
    }

    private static void odd() {
        promise = 18;
        PostmanRounds x = told("sab05;sbc07;saf01;");
        due("ends of a line", x.odd(), 0b100100);
        x.kind(0, 5, 0);
        due("a park is not DUE", x.odd(), 0b100111);
        x.kind(0, 0, 0);
        x.turns(0);
        due("nor is a closed one", x.odd(), 0b100111);
        x.turns(1);
        x.turns(2);
        due("none", x.odd(), 0);
    }

    private static void matched() {
        promise = 19;
        PostmanRounds x = told("sab02;scd02;sac02;sbd02;sef09;");
        due("a ring has none", x.matched(0), -9);
        due("e with f", x.matched(4), 5);
        due("f with e", x.matched(5), 4);
        tell(x, "sad09;");
        due("a with d", x.matched(0), 3);
        due("d with a", x.matched(3), 0);
        due("b is not odd", x.matched(1), -9);
        tell(x, "sbc09;");
        due("the least has the least partner of several", x.matched(0), 1);
        due("then the others", x.matched(2), 3);
        due("and back", x.matched(1), 0);
        tell(x, "k410;");
        due("from the lesser to the greater", x.matched(4), 5);
        PostmanRounds y = told("sba02;k010;");
        due("against a ONEWAY they can't be", y.matched(0), -9);
        due("matched(6)", x.matched(6), -1);
        due("matched(-1)", x.matched(-1), -1);
        refused(x, 2, 0, 0, 0, 0);
    }

    private static void matching() {
        promise = 20;
        PostmanRounds x = told("sab05;sbc07;");
        due("a to c", x.matching(), 12);
        tell(x, "sca03;");
        due("none is odd", x.matching(), 0);
        tell(x, "sba05;k310;");
        due("a to b by the least way", x.matching(), 5);
        tell(x, "sde02;sdf03;");
        due("and e to f by d", x.matching(), 10);
        due("which is e with f", x.matched(4), 5);
        PostmanRounds y = told("sba02;k010;");
        due("they can't be", y.matching(), -9);
        PostmanRounds z = told("sab10;sad01;sac02;sbd01;scd09;sbc30;");
        // Of a, b, c, d: a to b 2 and c to d 3; a to c 2 and b to d 1; a to d 1 and b to c 4.
        due("the least of three pairings", z.matching(), 3);
        due("has a with c", z.matched(0), 2);
    }

    private static void spliced() {
        promise = 21;
        PostmanRounds x = told("sab01;sbc01;sca01;sbd01;sde01;seb01;sfa01;sfa01;");
        int[] corners = {0, 1, 3, 4, 1, 2, 0, 5, 0};
        due("how many", x.spliced(-1), corners.length);
        for (int i = 0; i < corners.length; i++) {
            due("corner " + i, x.spliced(i), corners[i]);
        }
        due("behind all", x.spliced(corners.length), -9);
        due("far behind all", x.spliced(Integer.MAX_VALUE), -9);
        due("below", x.spliced(-2), -4);
        due("far below", x.spliced(Integer.MIN_VALUE), -4);
        refused(x, 0, 0, 0, 2, 0);
        PostmanRounds y = told("sab03;sbc04;sde01;sde01;hb;");
        // Twice each, a to c matched: b, a, b, c, b; d and e can't be come to.
        int[] there = {1, 0, 1, 2, 1};
        due("how many", y.spliced(-1), there.length);
        for (int i = 0; i < there.length; i++) {
            due("corner " + i, y.spliced(i), there[i]);
        }
        y.home(5);
        due("home by itself", y.spliced(-1), 1);
        due("is f", y.spliced(0), 5);
        due("and no more", y.spliced(1), -9);
        PostmanRounds z = told("sba02;k010;");
        due("they can't be matched", z.spliced(-1), -9);
        due("they can't be matched", z.spliced(0), -9);
        PostmanRounds w = told("sab09;sac01;scb01;k150;k250;");
        // The way from a to b goes by the parks.
        int[] parks = {0, 1, 2, 0};
        for (int i = 0; i < parks.length; i++) {
            due("by the parks " + i, w.spliced(i), parks[i]);
        }
        spliceInside();
    }

    private static void spliceInside() {
        PostmanRounds x = told("sab01;sab01;sbc01;sbc01;scd01;scd01;");
        // First a b a, as b's least street leads home; at b then, and of that at c.
        int[] corners = {0, 1, 2, 3, 2, 1, 0};
        due("how many", x.spliced(-1), corners.length);
        for (int i = 0; i < corners.length; i++) {
            due("inside, corner " + i, x.spliced(i), corners[i]);
        }
    }

    private static void balance() {
        promise = 22;
        PostmanRounds x = told("sab05;sac05;sda05;sbd05;k010;k130;k210;");
        due("a", x.balance(0), 1);
        due("b", x.balance(1), -1);
        due("c", x.balance(2), -1);
        due("d", x.balance(3), 1);
        due("e", x.balance(4), 0);
        x.turns(1);
        due("closed ones are not counted", x.balance(2), 0);
        x.kind(0, 2, 9);
        due("nor is another kind", x.balance(1), 0);
        due("balance(6)", x.balance(6), -100001);
        due("balance(-1)", x.balance(-1), -100001);
        refused(x, 2, 0, 0, 0, 0);
    }

    private static void flow() {
        promise = 23;
        due("no streets", new PostmanRounds().flow(), 0);
        PostmanRounds x = told("sab05;sab05;sba03;k010;k110;");
        due("twice from b to a", x.flow(), 6);
        x.kind(2, 1, 0);
        due("once, if the third is ONEWAY", x.flow(), 3);
        x.kind(2, 5, 0);
        due("by a park", x.flow(), 6);
        x.turns(2);
        due("it can't be", x.flow(), -9);
        PostmanRounds y = told("sab01;scd01;k010;k130;sbc04;sda05;sba90;sdc90;");
        due("b to c and d to a, not b to a and d to c", y.flow(), 9);
        PostmanRounds z = told("sab07;");
        due("nothing to balance", z.flow(), 0);
    }

    private static void loose() {
        promise = 24;
        PostmanRounds x = told("sab05;sbc07;");
        due("to the far end", x.loose(0), 12);
        due("which is c", x.loose(1), 2);
        x.home(1);
        due("from the middle", x.loose(0), 17);
        due("ends at c", x.loose(1), 2);
        x.length(0, 7);
        due("the least corner of two", x.loose(1), 0);
        due("with cost", x.loose(0), 21);
        x.kind(0, 1, 0);
        due("the ONEWAY leads home", x.loose(1), -9);
        due("and can't be walked from b", x.loose(0), -9);
        x.home(0);
        due("but from a", x.loose(0), 14);
        due("there is no round", x.round(0), -9);
        x.home(5);
        due("nor from f", x.loose(0), -9);
        x.turns(0);
        x.turns(1);
        due("nothing is DUE", x.loose(0), 0);
        due("ends at home", x.loose(1), 5);
        due("loose(2)", x.loose(2), -2);
        due("loose(-1)", x.loose(-1), -2);
        refused(x, 0, 2, 0, 0, 0);
        PostmanRounds y = told("sab05;");
        due("the round", y.round(0), 10);
        due("then loose", y.loose(0), 5);
        due("then the round again", y.round(0), 10);
    }

    private static void without() {
        promise = 25;
        PostmanRounds x = told("sab05;sbc07;sca03;");
        due("without(0)", x.without(0), 20);
        due("without(1)", x.without(1), 16);
        due("without(2)", x.without(2), 24);
        due("the round stays", x.round(0), 15);
        x.turns(2);
        due("closed already", x.without(2), 24);
        due("can't be come to", x.without(0), -9);
        due("without(3)", x.without(3), -1);
        due("without(-1)", x.without(-1), -1);
        refused(x, 2, 0, 0, 0, 0);
        due("all stays OPEN", x.count(1), 3);
    }

    private static void turned() {
        promise = 26;
        PostmanRounds x = told("sab05;sbc07;sca03;k010;k129;");
        due("the round", x.round(0), 15);
        due("turned(0): the other way about, b to c is still ON", x.turned(0), 24);
        due("turned(1)", x.turned(1), 24);
        due("turned(2)", x.turned(2), 15);
        due("all stays", x.street(0, 0), 0);
        due("the round stays", x.round(0), 15);
        x.kind(2, 1, 0);
        due("two against one", x.turned(0), -9);
        due("turned(3)", x.turned(3), -1);
        due("turned(-1)", x.turned(-1), -1);
        refused(x, 2, 0, 0, 0, 0);
    }

    private static void worst() {
        promise = 27;
        due("no streets", new PostmanRounds().worst(), -9);
        PostmanRounds x = told("sab05;sbc07;sca03;");
        due("without the least the others are walked twice", x.worst(), 2);
        x.length(0, 3);
        due("the least of two alike", x.worst(), 0);
        tell(x, "scd01;sde01;");
        due("none without 3: worse than all", x.worst(), 3);
        x.kind(2, 5, 0);
        due("a park is not DUE", x.worst(), 3);
        for (int street = 0; street < 5; street++) {
            x.kind(street, 5, 0);
        }
        due("none is DUE", x.worst(), -9);
    }

    private static void shared() {
        promise = 28;
        PostmanRounds x = told("sab05;sac04;sad03;");
        int[][] wanted = {{24, 24, 1}, {14, 24, 2}, {10, 24, 3}};
        for (int n = 1; n <= 3; n++) {
            for (int what = 0; what < 3; what++) {
                due("shared by " + n + " what " + what, x.shared(n, what), wanted[n - 1][what]);
            }
        }
        PostmanRounds y = told("sab05;sbc05;");
        due("the far one costs all", y.shared(2, 0), 20);
        due("so one walks both", y.shared(2, 1), 20);
        due("by himself", y.shared(2, 2), 1);
        due("nothing DUE", new PostmanRounds().shared(3, 0), 0);
        due("nobody has one", new PostmanRounds().shared(3, 2), 0);
        y.home(5);
        due("no such way", y.shared(3, 1), -9);
        due("shared(0, 3)", y.shared(0, 3), -4);
        due("shared(4, 3)", y.shared(4, 3), -6);
        due("shared(3, 3)", y.shared(3, 3), -2);
        due("shared(3, -1)", y.shared(3, -1), -2);
        refused(y, 0, 2, 0, 1, 1);
    }

    private static void dealt() {
        promise = 29;
        PostmanRounds x = told("sab05;sac04;sad03;sae09;k350;");
        int[][] wanted = {{0, 0, 0}, {0, 1, 1}, {0, 1, 2}};
        for (int n = 1; n <= 3; n++) {
            for (int street = 0; street < 3; street++) {
                due("dealt(" + n + ", " + street + ")", x.dealt(n, street), wanted[n - 1][street]);
            }
            due("a park is dealt to nobody", x.dealt(n, 3), -9);
        }
        x.home(5);
        due("there is no dealing", x.dealt(2, 0), -9);
        due("dealt(0, 9)", x.dealt(0, 9), -4);
        due("dealt(4, 9)", x.dealt(4, 9), -6);
        due("dealt(1, 4)", x.dealt(1, 4), -1);
        due("dealt(1, -1)", x.dealt(1, -1), -1);
        refused(x, 2, 0, 0, 1, 1);
    }

    private static void lost() {
        promise = 30;
        PostmanRounds x = told("sab05;sbc07;");
        // Both OPEN 24; only the first 10; none 0; only the second can't be walked.
        due("any cost, t 3, above", x.lost(9999, 3, 0), 7);
        due("below", x.lost(9999, 3, 1), 9);
        due("10 at most, t 2", x.lost(10, 2, 0), 1);
        due("in least terms", x.lost(10, 2, 1), 2);
        due("9 at most, t 20", x.lost(9, 20, 0), 1);
        due("below", x.lost(9, 20, 1), 400);
        PostmanRounds y = told("sab01;sab01;sab01;sab01;sab01;sab01;sbc01;scb01;k610;");
        due("never with fewer than 2", y.lost(1, 20, 0), 0);
        due("by 1", y.lost(1, 20, 1), 1);
        due("7 and 8 are never lost: one of six at least must stay", y.lost(9999, 20, 0), 63999999);
        due("of 20 to the sixth", y.lost(9999, 20, 1), 64000000);
        due("no streets", new PostmanRounds().lost(0, 2, 0), 1);
        due("by 1", new PostmanRounds().lost(0, 2, 1), 1);
        x.turns(1);
        due("a closed one is not lost", x.lost(0, 4, 0), 1);
        due("so one in four", x.lost(0, 4, 1), 4);
        due("lost(-1, 21, 2)", x.lost(-1, 21, 2), REFUSED + 4);
        due("lost(10000, 1, 2)", x.lost(10000, 1, 2), REFUSED + 4);
        due("lost(10000, 2, 2)", x.lost(10000, 2, 2), REFUSED + 6);
        due("lost(0, 21, 2)", x.lost(0, 21, 2), REFUSED + 6);
        due("lost(0, 2, 2)", x.lost(0, 2, 2), REFUSED + 2);
        due("lost(0, 2, -1)", x.lost(0, 2, -1), REFUSED + 2);
        refused(x, 0, 2, 0, 2, 2);
    }

    private static void whatIs() {
        promise = 31;
        PostmanRounds x = told("sab05;sbc05;sca05;");
        tellRow(x, 0, 1);
        due("kinds with which it begins by b", x.whatIs(1, 0), 63);
        x.clear();
        tellRow(x, 0, 2);
        // ON, street 1 is never dearer than BACK, and the way about by b begins with the least street.
        due("kinds with which it begins by c", x.whatIs(1, 0), 0);
        x.clear();
        tellRow(x, 0, 1, 2, 0);
        due("about by b, with the park as the least way, too", x.whatIs(1, 0), 63);
        due("figures of a BOTH", x.whatIs(1, 1), 1023);
        due("the row stays", x.count(5), 4);
        x.row(0);
        due("too much", x.whatIs(1, 0), 0);
        due("too much", x.whatIs(1, 1), 0);
        PostmanRounds y = told("sab05;sbc05;scb03;sac09;k350;k124;");
        // From b to c and back: by 1 ON and 2 ON costs 8, by 2 BACK and 1 BACK more.
        tellRow(y, 0, 1, 2, 1, 0);
        due("figures of a STEEP", y.whatIs(1, 1), 1023);
        y.home(5);
        due("none without a round", y.whatIs(1, 0), 0);
        due("the street stays", y.street(1, 3), 2);
        due("its figure, too", y.street(1, 4), 4);
        due("whatIs(4, 2)", y.whatIs(4, 2), -1);
        due("whatIs(-1, 0)", y.whatIs(-1, 0), -1);
        due("whatIs(0, 2)", y.whatIs(0, 2), -2);
        due("whatIs(0, -1)", y.whatIs(0, -1), -2);
        refused(y, 2, 2, 0, 0, 0);
        whatIsSome();
    }

    private static void whatIsSome() {
        // About by b, street 0 is walked BACK; about by c it is walked ON.
        PostmanRounds x = told("sba05;sbc05;sca05;");
        tellRow(x, 0, 1);
        due("b to a can't be a ONEWAY or TOLL", x.whatIs(0, 0), 0b110101);
        x.clear();
        tellRow(x, 0, 2);
        due("and is one of these, if c is first", x.whatIs(0, 0), 0b001010);
        x.kind(0, 2, 0);
        due("STEEP by any figure above 0 goes ON", x.whatIs(0, 1), 0b1111111110);
        x.clear();
        tellRow(x, 0, 1);
        due("by 0 BACK, as its number is the least", x.whatIs(0, 1), 1);
    }

    private static void row() {
        promise = 32;
        PostmanRounds x = new PostmanRounds();
        due("row(0)", x.row(0), 1);
        due("row(9)", x.row(9), 2);
        due("row(-1)", x.row(-1), -4);
        due("row(10)", x.row(10), -6);
        for (int i = 3; i <= 32; i++) {
            due("number " + i, x.row(5), i);
        }
        due("a 33rd", x.row(5), -6);
        due("a 33rd below", x.row(-5), -4);
        due("in the row", x.count(5), 32);
        refused(x, 0, 0, 0, 2, 2);
    }

    private static void judge() {
        promise = 33;
        PostmanRounds x = told("sab05;sbc07;sca03;");
        due("all lack", x.judge(), 0);
        tellRow(x, 0, 1, 2, 0);
        due("as it is", x.judge(), -9);
        due("the row has none", x.count(5), 0);
        tellRow(x, 0, 1, 2);
        due("one lacks", x.judge(), 3);
        due("the row has none", x.count(5), 0);
        tellRow(x, 0, 1, 2, 0, 0);
        due("one is too much", x.judge(), 4);
        tellRow(x, 0, 2, 1, 0);
        due("another one", x.judge(), 1);
        tellRow(x, 1);
        due("not home", x.judge(), 0);
        x.home(5);
        due("no round, no row", x.judge(), -9);
        tellRow(x, 5);
        due("no round, but a row", x.judge(), 0);
        PostmanRounds y = new PostmanRounds();
        due("a round without steps has its home", y.judge(), 0);
        tellRow(y, 0);
        due("told", y.judge(), -9);
    }

    private static void clear() {
        promise = 34;
        PostmanRounds x = new PostmanRounds();
        due("none", x.clear(), 0);
        tellRow(x, 1, 2, 3);
        due("three", x.clear(), 3);
        due("in the row", x.count(5), 0);
        due("none then", x.clear(), 0);
        due("a new one", x.row(4), 1);
    }

    private static void lots() {
        promise = 35;
        PostmanRounds x = told("sab05;sbc07;x1;");
        int z = 77;
        int together = 0;
        for (int i = 1; i <= 20; i++) {
            z = z * 1664525 + 1013904223;
            together += 2 * (1 + (z & 0x7fffffff) / 256 % 99);
            // The closed street draws, too.
            z = z * 1664525 + 1013904223;
            due("maps of " + i, x.lots(i, 77, 0), i);
            due("costs of " + i, x.lots(i, 77, 1), together);
        }
        due("lengths stay", x.count(3), 12);
        due("a seed below 0", x.lots(1, -1, 1), 2 * (1 + ((-1664525 + 1013904223) & 0x7fffffff) / 256 % 99));
        x.home(5);
        due("no round", x.lots(20, 77, 0), 0);
        due("no costs", x.lots(20, 77, 1), 0);
        due("lots(0, 1, 2)", x.lots(0, 1, 2), -4);
        due("lots(21, 1, 2)", x.lots(21, 1, 2), -6);
        due("lots(20, 1, 2)", x.lots(20, 1, 2), -2);
        due("lots(20, 1, -1)", x.lots(20, 1, -1), -2);
        refused(x, 0, 2, 0, 1, 1);
    }

    private static void image() {
        promise = 36;
        PostmanRounds x = new PostmanRounds();
        due("of none", x.image(), 0);
        x.streets(0, 1, 5);
        x.streets(0, 1, 5);
        due("of two", x.image(), 2);
        due("ON from the later one", x.on(), 2);
        x.letter('s');
        x.row(3);
        x.turns(7);
        x.image();
        due("letters stay", x.count(6), 1);
        due("the row stays", x.count(5), 1);
        due("refusals stay", x.count(11), 1);
    }

    private static void on() {
        promise = 37;
        PostmanRounds x = told("sab05;sbc07;k134;x0;hb;");
        due("there is none", x.on(), -3);
        x.image();
        tell(x, "sef11;k055;l099;k112;l188;x0;x1;hd;");
        x.letter('s');
        x.letter('a');
        x.row(3);
        x.on();
        int[][] wanted = {{0, 1, 5, 0, 0, 0}, {1, 2, 7, 3, 4, 1}};
        for (int street = 0; street < 2; street++) {
            for (int what = 0; what < 6; what++) {
                due("street " + street + " what " + what, x.street(street, what), wanted[street][what]);
            }
        }
        due("home", x.count(4), 1);
        due("streets", x.count(0), 2);
        due("letters stay", x.count(6), 2);
        due("the row stays", x.count(5), 1);
        x.streets(4, 5, 1);
        due("ON once more", x.on(), 2);
        refused(x, 0, 0, 1, 0, 0);
    }

    private static void count() {
        promise = 38;
        PostmanRounds x = told("sab05;sbc07;scd20;k250;x1;he;");
        tellRow(x, 1, 2);
        x.letter('s');
        int[] wanted = {3, 5, 1, 32, 4, 2, 1, -9, -9, -9, -9, 0, 0, 0, 0, 0, 0, -9};
        for (int what = 0; what < wanted.length; what++) {
            due("count(" + what + ")", x.count(what), wanted[what]);
        }
        due("count(-1)", x.count(-1), -9);
        due("count(MIN)", x.count(Integer.MIN_VALUE), -9);
        due("count(MAX)", x.count(Integer.MAX_VALUE), -9);
        x.turns(-1);
        x.round(7);
        x.round(8);
        x.on();
        x.on();
        x.on();
        x.row(-1);
        x.lots(0, 0, 0);
        x.lost(-1, 0, 0);
        x.letter(-1);
        x.row(10);
        refused(x, 1, 2, 3, 4, 1);
    }
}
